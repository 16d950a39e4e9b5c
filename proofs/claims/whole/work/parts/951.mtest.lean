/-! PARSER, the Model's machine: facts and tests. -/
def zfactE (B : Int → Int) (n : Nat) (P : zPfu) (e : Nat) : zRs (Nat × List Int) :=
  if zwrd B n e zo_all = true then .inr (zto B n e, [13])
  else zbd (zsumF B n P e) (fun r => if zcmpr B n r.1 = -1 then .inl (1, (zfr B n r.1 : Nat)) else zbd (zsumF B n P (zto B n r.1)) (fun r2 => .inr (r2.1, r.2 ++ r2.2 ++ [zcmpr B n r.1])))
theorem m_qFact {G : zG} {h sl : Nat} (hsl : 2 ≤ sl) {Q : Int → zM → Prop} {md : Int} {T : zTb} {m : Nat} {B : Int → Int} {n bs e k : Nat} {C W : List Int} {op : Int} {M : zM} (hmd : md = 0 ∨ md = 1 ∨ md = 2) (hn : n ≤ 1600) (hm : m ≤ 8) (hk : k ≤ 6) (hop : op = 6 - (k : Int)) (he : e ≤ n) (hW : ∀ x : Int, 1 ≤ x → x ≤ 4 → ¬ W.head? = some x) (hl : C.length + W.length ≤ e) (hr : zQs md T m B n bs e C W op M) (qo : ∀ e' D, zfactE B n (zpart md T m B n k) e = .inr (e', D) → ∀ M', zSm zPmq M M' → zQs md T m B n bs e' (C ++ D) W op M' → Q 0 M') (qn : ∀ f p, f ≠ 0 → zfactE B n (zpart md T m B n k) e = .inl (f, p) → ∀ M', zSm zPmq M M' → zMF f p M' → Q 0 M') (hf0 : ∀ e f p, zsumK md T m B n k e = .inl (f, p) → f ≠ 0) : zCt G (h + 7) sl 0 0 y_Md_qFact [(2, 125)] M Q := by
  have gS := zsum_gd (B := B) (zpart_gd (T := T) (B := B) (md := md) (n := n) hm k)
  unfold zfactE at qo qn
  refine E_Md_qFact hsl (m_takes hsl hn he hr.1 zo_182 (by decide) (fun c M1 h1 g1 => ⟨fun y => absurd y (by decide), fun _ => ?_⟩) (fun c M1 h1 g1 => ⟨fun _ => ?_, fun y => absurd rfl y⟩))
  · rw [if_pos c] at qo
    exact m_qCode hsl (hr.mv h1 g1) (by omega) (fun M2 h2 g2 => qo _ _ rfl M2 ((zPmt_q h1).trans h2) g2)
  · rw [if_neg c] at qo qn
    have hr1 := hr.mv h1 g1.1
    refine m_qSums (T := T) (k := k) hsl hmd hn hm hk hop he hW hl hr1 (fun e1 D1 z1 M2 h2 g2 => ⟨fun _ => ?_, fun y => absurd g2.1.1.2.2 y⟩) (fun f p z1 M2 h2 x2 h9 => ⟨fun y => absurd (x2.1.symm.trans y) (hf0 _ _ _ z1), fun _ => qn f p (hf0 _ _ _ z1) (by unfold zsumK at z1; rw [z1, zbd_no]) M2 ((zPmt_q h1).trans h2) x2⟩)
    unfold zsumK at z1
    have gg := gS _ _ _ he z1
    have hM2 := (zPmt_q h1).trans h2
    rw [z1, zbd_ok] at qo qn
    have qo : ∀ e' D, (if zcmpr B n e1 = -1 then (.inl (1, (zfr B n e1 : Nat)) : zRs (Nat × List Int)) else zbd (zsumF B n (zpart md T m B n k) (zto B n e1)) (fun r2 => .inr (r2.1, D1 ++ r2.2 ++ [zcmpr B n e1]))) = .inr (e', D) → _ := qo
    have qn : ∀ f p, f ≠ 0 → (if zcmpr B n e1 = -1 then (.inl (1, (zfr B n e1 : Nat)) : zRs (Nat × List Int)) else zbd (zsumF B n (zpart md T m B n k) (zto B n e1)) (fun r2 => .inr (r2.1, D1 ++ r2.2 ++ [zcmpr B n e1]))) = .inl (f, p) → _ := qn
    refine m_look hsl hn gg.2.1 g2.1 (fun M3 h3 g3 => ?_)
    have hr3 := g2.mv (zPwl_mt h3) g3.1
    have hM3 := hM2.trans (zPwl_q h3)
    -- behind the sign
    have go : ∀ x j : Int, zsg B n e1 x = true → zcmpr B n e1 = j → (x = 60 ∧ j = 7 ∨ x = 62 ∧ j = 8 ∨ x = 61 ∧ j = 9) → zX G (y_Md_qFact, h + 6 + 1, sl) (0, 0, 0, 0) 63 [(0, (2, 125)), (1, (0, if zfr B n e1 < n then B (zfr B n e1 : Nat) else -1))] [] M3 Q := fun x j hx hj hc => by
      have hkk := zsg_k hx
      have hb := zsg_e gg.2.1 hx
      have hat := zrk_lt (B := B) (n := n) (e := e1) (by omega)
      rw [(zlk_s (B := B) (n := n) (e := e1) (x := x) (by rcases hc with a | a | a <;> rw [a.1] <;> decide) (by omega)).2 hx]
      rw [hj, if_neg (by omega)] at qo qn
      have s4 : zSm zPmt M3 (zwr M3 125 2 (M3 125 2 + 1)) := (zSm.refl _ M3).wr ⟨rfl, by decide⟩
      have g4 : zMd B n (zto B n e1) (zwr M3 125 2 (M3 125 2 + 1)) := by rw [g3.2]; exact zMd.sg g3 hkk.2.1 rfl
      have hr4 := hr3.mv s4 g4
      have hM4 := hM3.trans (zPmt_q s4)
      -- the comparison's code
      have cd : ∀ (M5 : zM), (zCt G (h + 6) sl 0 0 y_Md_qCode [(2, 125), (0, j)] M5 (fun r4 M5 => Q 0 M5)) → (¬ x = 60 → (¬ x = 62 → zCt G (h + 6) sl 0 0 y_Md_qCode [(2, 125), (0, 9)] M5 (fun r4 M5 => Q 0 M5)) ∧ (¬ (¬ x = 62) → zCt G (h + 6) sl 0 0 y_Md_qCode [(2, 125), (0, 8)] M5 (fun r6 M7 => Q 0 M7))) ∧ (¬ (¬ x = 60) → zCt G (h + 6) sl 0 0 y_Md_qCode [(2, 125), (0, 7)] M5 (fun r8 M9 => Q 0 M9)) := fun M5 q => by
        refine ⟨fun c1 => ⟨fun c2 => ?_, fun c2 => ?_⟩, fun c1 => ?_⟩
        · rw [show j = 9 from by omega] at q; exact q
        · rw [show j = 8 from by omega] at q; exact q
        · rw [show j = 7 from by omega] at q; exact q
      refine B_Md_qFact_63 hsl ⟨by rw [g3.2]; unfold zI; omega, ?_⟩
      refine m_qSums (T := T) (k := k) hsl hmd hn hm hk hop hb.2 hW (by simp only [List.length_append]; omega) hr4 (fun e2 D2 z2 M5 h5 g5 => cd M5 ?_) (fun f p z2 M5 h5 x5 h9 => cd M5 ?_)
      · unfold zsumK at z2
        have g6 := gS _ _ _ hb.2 z2
        refine m_qCode hsl g5 (by simp only [List.length_append]; omega) (fun M6 h6 g7 => qo e2 (D1 ++ D2 ++ [j]) (by rw [z2, zbd_ok]) M6 ((hM4.trans h5).trans h6) (by simpa only [List.append_assoc] using g7))
      · have hz2 : zsumF B n (zpart md T m B n k) (zto B n e1) = .inl (f, p) := z2
        refine m_qCodeF hsl ⟨h9.1, by have := h9.2; omega⟩ (fun M6 h6 a5 a6 a9 => qn f p (hf0 _ _ _ z2) (by rw [hz2, zbd_no]) M6 ((hM4.trans h5).trans h6) (x5.fr a5 a6))
    refine ⟨fun c1 => ?_, fun c1 => ⟨fun c2 => ?_, fun c2 => ⟨fun c3 => ?_, fun c3 => ?_⟩⟩⟩
    · have c1 := (zlk_s (by decide) (by decide)).1 c1
      exact go 60 7 c1 (by unfold zcmpr; rw [if_pos c1]) (by omega)
    · have c2 := (zlk_s (by decide) (by decide)).1 c2
      rw [zlk_s (by decide) (by decide)] at c1
      exact go 62 8 c2 (by unfold zcmpr; rw [if_neg c1, if_pos c2]) (by omega)
    · have c3 := (zlk_s (by decide) (by decide)).1 c3
      rw [zlk_s (by decide) (by decide)] at c1 c2
      exact go 61 9 c3 (by unfold zcmpr; rw [if_neg c1, if_neg c2, if_pos c3]) (by omega)
    · rw [zlk_s (by decide) (by decide)] at c1 c2 c3
      have hc : zcmpr B n e1 = -1 := by unfold zcmpr; rw [if_neg c1, if_neg c2, if_neg c3]
      rw [if_pos hc] at qn
      rw [g3.2]
      exact m_fail0 hsl g3.1.1.2.2 (fun M4 h4 g4 => qn _ _ (by decide) rfl M4 (hM3.trans (zPmt_q h4)) g4)
/-- no fault is 0 -/
def zNz (F : zPfu) : Prop := ∀ e f p, F e = .inl (f, p) → f ≠ 0
theorem zlpp_nz {F : zPfu} {sg : Nat → Option Int} {nx : Nat → Nat} (hF : zNz F) : ∀ (d e : Nat) (C : List Int) (f p : Int), zlpp F sg nx d e C = .inl (f, p) → f ≠ 0
  | 0, e, C, f, p, h => by nomatch h
  | d + 1, e, C, f, p, h => by
    cases c : sg e with
    | none => rw [zlpp_n c] at h; nomatch h
    | some j =>
      rw [zlpp_s c] at h
      cases r : F (nx e) with
      | inl x =>
        rw [r, zbd_no] at h
        injection h with h
        subst h
        exact hF _ _ _ r
      | inr x =>
        rw [r, zbd_ok] at h
        exact zlpp_nz hF d _ _ f p h
theorem zlvl_nz {B : Int → Int} {n : Nat} {F : zPfu} {sg : Nat → Option Int} (hF : zNz F) : zNz (zlvl B n sg F) := fun e f p h => by
  unfold zlvl at h
  cases r : F e with
  | inl x =>
    rw [r, zbd_no] at h
    injection h with h
    subst h
    exact hF _ _ _ r
  | inr x =>
    rw [r, zbd_ok] at h
    exact zlpp_nz hF _ _ _ f p h
theorem zsum_nz {B : Int → Int} {n : Nat} {F : zPfu} (hF : zNz F) : zNz (zsumF B n F) := zlvl_nz (zlvl_nz hF)
theorem zbd_nz {α : Type} {x : zRs α} {g : α → zRs (Nat × List Int)} {f p : Int} (h : zbd x g = .inl (f, p)) (h1 : ∀ f p, x = .inl (f, p) → f ≠ 0) (h2 : ∀ a f p, g a = .inl (f, p) → f ≠ 0) : f ≠ 0 := by
  cases r : x with
  | inl y =>
    rw [r, zbd_no] at h
    injection h with h
    subst h
    exact h1 _ _ r
  | inr y =>
    rw [r, zbd_ok] at h
    exact h2 _ _ _ h
theorem zsgn_nz {B : Int → Int} {n e : Nat} {x f p : Int} (h : zsgn B n e x = .inl (f, p)) : f ≠ 0 := by
  unfold zsgn at h
  by_cases c : zsg B n e x = true
  · rw [if_pos c] at h; nomatch h
  · rw [if_neg c] at h; injection h with h; injection h with h h'; omega
theorem zinl_nz {α : Type} {a b f p : Int} (h : (.inl (a, b) : zRs α) = .inl (f, p)) (ha : a ≠ 0) : f ≠ 0 := by
  injection h with h; injection h with h h'; omega
theorem zinr_nz {α : Type} {a : α} {f p : Int} (h : (.inr a : zRs α) = .inl (f, p)) : f ≠ 0 := by nomatch h
theorem zpair_nz {B : Int → Int} {n e : Nat} {j f p : Int} {I : Option zPfu} (hI : ∀ g, I = some g → zNz g) (h : zpair B n I e j = .inl (f, p)) : f ≠ 0 := by
  unfold zpair at h
  by_cases c : ¬ zsg B n e 40 = true
  · rw [if_pos c] at h; exact zinl_nz h (by decide)
  · rw [if_neg c] at h
    cases ci : I with
    | none => rw [ci] at h; exact zinl_nz h (by decide)
    | some g =>
      rw [ci, zins_s] at h
      have hg := zsum_nz (B := B) (n := n) (hI g ci)
      exact zbd_nz h (hg _) (fun a f p h => zbd_nz h (fun f p h => zsgn_nz h) (fun b f p h => zbd_nz h (hg _) (fun d f p h => zbd_nz h (fun f p h => zsgn_nz h) (fun k f p h => zinr_nz h))))
theorem zpartS_nz {md : Int} {T : zTb} {m : Nat} {B : Int → Int} {n : Nat} {I : Option zPfu} (hI : ∀ g, I = some g → zNz g) : zNz (zpartS md T m B n I) := fun e f p h => by
  unfold zpartS at h
  by_cases c1 : zkd B n e = 2
  · rw [if_pos c1] at h
    exact zbd_nz h (fun f p h => znum_no h) (fun a f p h => zinr_nz h)
  · rw [if_neg c1] at h
    by_cases c2 : zsg B n e 40 = true
    · rw [if_pos c2] at h
      cases ci : I with
      | none => rw [ci] at h; exact zinl_nz h (by decide)
      | some g =>
        rw [ci, zins_s] at h
        exact zbd_nz h (zsum_nz (hI g ci) _) (fun a f p h => zbd_nz h (fun f p h => zsgn_nz h) (fun k f p h => zinr_nz h))
    · rw [if_neg c2] at h
      by_cases c3 : zwrd B n e zo_min = true
      · rw [if_pos c3] at h; exact zpair_nz hI h
      · rw [if_neg c3] at h
        by_cases c4 : zwrd B n e zo_max = true
        · rw [if_pos c4] at h; exact zpair_nz hI h
        · rw [if_neg c4] at h
          by_cases c5 : md = 2 ∧ (zwrd B n e zo_ahead = true ∨ zwrd B n e zo_col = true)
          · rw [if_pos c5] at h
            cases ci : I with
            | none => rw [ci] at h; exact zinl_nz h (by decide)
            | some g =>
              rw [ci, zins_s] at h
              exact zbd_nz h (hI g ci _) (fun a f p h => zinr_nz h)
          · rw [if_neg c5] at h
            by_cases c6 : ztld md T m B n e = -1
            · rw [if_pos c6] at h; exact zinl_nz h (by decide)
            · rw [if_neg c6] at h; nomatch h
theorem zpart_nz {md : Int} {T : zTb} {m : Nat} {B : Int → Int} {n : Nat} : ∀ k, zNz (zpart md T m B n k)
  | 0 => zpartS_nz (fun g h => by nomatch h)
  | k + 1 => zpartS_nz (I := some (zpart md T m B n k)) (fun g h => by injection h with h; subst h; exact zpart_nz k)
theorem zsumK_nz {md : Int} {T : zTb} {m : Nat} {B : Int → Int} {n k : Nat} : zNz (zsumK md T m B n k) := zsum_nz (zpart_nz k)
