/-! PARSER, the class: levels (made by wip/whole/gen/clevels.py). -/
theorem zlpp_s {f : zPfu} {sg : Nat → Option Int} {nx : Nat → Nat} {d e : Nat} {C : List Int} {j : Int} (h : sg e = some j) : zlpp f sg nx (d + 1) e C = zbd (f (nx e)) (fun r => zlpp f sg nx d r.1 (C ++ r.2 ++ [j])) := by
  show (match sg e with | none => _ | some j => _) = _
  rw [h]
theorem zlpp_n {f : zPfu} {sg : Nat → Option Int} {nx : Nat → Nat} {e : Nat} {C : List Int} (h : sg e = none) : ∀ d, zlpp f sg nx d e C = .inr (e, C)
  | 0 => rfl
  | d + 1 => by
    show (match sg e with | none => _ | some j => _) = _
    rw [h]
theorem zcc_j {q : Bool} {j : Int} (h1 : 1 ≤ j) (h2 : j ≤ 11) : zcc q j = 0 * 16 + (j + 3) := by
  unfold zcc
  rw [if_neg (by omega), if_neg (by omega), if_neg (by omega), if_neg (by omega), if_neg (by omega)]
  omega
/-- a method of the reader does what F says -/
def zCf (G : zG) (sl : Nat) (md : Int) (T : zTb) (m : Nat) (t c : Int) (B : Int → Int) (n s : Nat) (y : zYt) (op : Int) (hh : Nat) (F : zPfu) : Prop :=
  ∀ (h : Nat), hh ≤ h → ∀ (e : Nat) (C : List Int) (M : zM) (Q : Int → zM → Prop), e ≤ n → s + C.length ≤ e → zRp md T m t c B n s e C M → (∀ e' D, F e = .inr (e', D) → ∀ M', zSm (zPrp c) M M' → zRp md T m t c B n s e' (C ++ D) M' → Q 1 M') → (∀ f p, F e = .inl (f, p) → ∀ M', zSm (zPrp c) M M' → zRF f p M' → M' 72 6 = c → 0 ≤ M' c 2 → Q 0 M') → zCt G h sl 0 0 y [(2, 72), (0, op)] M Q
theorem c_productL {G : zG} {h sl : Nat} (hsl : 1 ≤ sl) {md : Int} {T : zTb} {m : Nat} {t c op : Int} {B : Int → Int} {n s hh dp : Nat} {ok : Int → Bool} {ty : Bool} {F : zPfu} (hn : n ≤ 1600) (hm : m ≤ 8) (hc : zcob c) (hF : zCf G sl md T m t c B n s y_Reader_part op hh F) (hg : zGd ok n dp ty F) (hh' : hh ≤ h + 1) {M0 : zM} {C0 : List Int} {e0 : Nat} {Q : Int → zM → Prop} (hs0 : s + C0.length ≤ e0) :
    ∀ (d i e : Nat) (D : List Int) (M : zM) (u : Nat × Nat × Nat × Nat), d + i = 1600 → e ≤ n → e0 + D.length ≤ e → zSm (zPrp c) M0 M → zRp md T m t c B n s e (C0 ++ D) M → (∀ e' D', zlpp F (zgP B n) (zto B n) d e D = .inr (e', D') → ∀ M', zSm (zPrp c) M0 M' → zRp md T m t c B n s e' (C0 ++ D') M' → Q 1 M') → (∀ f p, zlpp F (zgP B n) (zto B n) d e D = .inl (f, p) → ∀ M', zSm (zPrp c) M0 M' → zRF f p M' → M' 72 6 = c → 0 ≤ M' c 2 → Q 0 M') → zX G (y_Reader_product, h + 1 + 1, sl) u 12 [(0, (2, 72)), (1, (0, op)), (2, (0, (i : Int)))] [] M Q := by
  intro d
  induction d with
  | zero =>
    intro i e D M u ei he hl hM hr qo qn
    exact B_Reader_product_12 hsl ⟨fun _ => qo e D rfl M hM hr, fun g => absurd (by omega) g⟩
  | succ d ih =>
    intro i e D M u ei he hl hM hr qo qn
    have stop : zgP B n e = none → Q 1 M := fun cz => qo e D (zlpp_n cz _) M hM hr
    have go : ∀ (j : Int) (M1 : zM) (e1 : Nat), e1 = zto B n e → zgP B n e = some j → 1 ≤ j → j ≤ 11 → e + 1 ≤ e1 → e1 ≤ n → zSm (zPrp c) M0 M1 → zRp md T m t c B n s e1 (C0 ++ D) M1 → zCt G (h + 1) sl 0 0 y_Reader_part [(2, 72), (0, op)] M1 (fun r3 M4 => (¬ r3 = 0 → (zK (M4 72 6) = (0, 0)) ∧ (zCt G (h + 1) sl 0 0 y_Code_add [(2, (M4 72 6)), (0, j + 3), (0, 0)] M4 (fun r6 M7 => (zI ((i : Int) + 1)) ∧ (zX G (y_Reader_product, h + 1 + 1, sl) u 12 [(0, (2, 72)), (1, (0, op)), (2, (0, ((i : Int) + 1)))] [] M7 Q)))) ∧ (¬ (¬ r3 = 0) → Q 0 M4)) := fun j M1 e1 ee1 cj j1 j11 he1 hn1 hM1 hr1 => by
      refine hF (h + 1) hh' e1 (C0 ++ D) M1 _ hn1 (by simp only [List.length_append]; omega) hr1 (fun e2 D2 h2 M4 hM4 hr4 => ⟨fun _ => ?_, fun y => absurd (by decide) y⟩) (fun f p h2 M4 hM4 h4 h6 h0 => ⟨fun y => absurd rfl y, fun _ => qn f p ?_ M4 (hM1.trans hM4) h4 h6 h0⟩)
      · have g2 := hg _ _ _ hn1 h2
        rw [hr4.2.1.1]
        refine ⟨hc.k, c_add hsl hm hc (by simp only [List.length_append]; omega) hr4 (zcc_j j1 j11) (by omega) (by omega) (fun M7 hM7 hr7 => ⟨by unfold zI; omega, ?_⟩)⟩
        have el : zlpp F (zgP B n) (zto B n) (d + 1) e D = zlpp F (zgP B n) (zto B n) d e2 (D ++ D2 ++ [j]) := by
          rw [zlpp_s cj, ← ee1, h2, zbd_ok]
        have := ih (i + 1) e2 (D ++ D2 ++ [j]) M7 u (by omega) g2.2.1 (by simp only [List.length_append, List.length_cons, List.length_nil]; omega) ((hM1.trans hM4).trans hM7) (by simpa only [List.append_assoc] using hr7) (fun e' D' hz => qo e' D' (el.trans hz)) (fun f p hz => qn f p (el.trans hz))
        rw [zcs] at this
        exact this
      · rw [zlpp_s cj, ← ee1, h2, zbd_no]
    have goS : ∀ (j : Int) (u2 : Nat × Nat × Nat × Nat), u2 = u → zgP B n e = some j → 1 ≤ j → j ≤ 11 → zrk B n e ≠ 0 → zX G (y_Reader_product, h + 1 + 1, sl) u 53 [(0, (2, 72)), (1, (0, op)), (2, (0, (i : Int)))] [(0, j + 3)] M Q := fun j _ _ cj j1 j11 hz => by
      have hb := zto_b (B := B) he
      have hb3 := hb.2.2 hz
      have hfl := zfr_le B n e
      exact B_Reader_product_53 hsl (c_taken hsl hn he hr.1 (fun M2 hM2 hr2 => go j M2 _ rfl cj j1 j11 (by omega) hb.2.1 (hM.trans (zPrs_rp hM2)) (hr.mv hm hc hM2 hr2)))
    refine B_Reader_product_12 hsl ⟨fun g => absurd g (by omega), fun _ => c_isS hsl hn he hr.1 (fun c1 => ⟨fun _ => ?_, fun y => absurd (by decide) y⟩) (fun c1 => ⟨fun y => absurd rfl y, fun _ => c_isS hsl hn he hr.1 (fun c2 => ⟨fun y => absurd y (by decide), fun _ => ?_⟩) (fun c2 => ⟨fun _ => stop (by unfold zgP; rw [if_neg c1, if_neg c2]), fun y => absurd rfl y⟩)⟩)⟩
    · exact B_Reader_product_37 hsl (c_isS hsl hn he hr.1 (fun c3 => ⟨fun y => absurd y (by decide), fun _ => goS 3 u rfl (by unfold zgP; rw [if_pos c1]) (by decide) (by decide) (by have := (zsg_k c1).2.1; omega)⟩) (fun c3 => absurd c1 c3))
    · exact B_Reader_product_37 hsl (c_isS hsl hn he hr.1 (fun c3 => absurd c3 c1) (fun c3 => ⟨fun _ => goS 4 u rfl (by unfold zgP; rw [if_neg c1, if_pos c2]) (by decide) (by decide) (by have := (zsg_k c2).2.1; omega), fun y => absurd rfl y⟩))
theorem c_product {G : zG} {sl : Nat} (hsl : 1 ≤ sl) {md : Int} {T : zTb} {m : Nat} {t c op : Int} {B : Int → Int} {n s hh dp : Nat} {ok : Int → Bool} {ty : Bool} {F : zPfu} (hn : n ≤ 1600) (hm : m ≤ 8) (hc : zcob c) (hF : zCf G sl md T m t c B n s y_Reader_part op hh F) (hg : zGd ok n dp ty F) (h5 : 1 ≤ hh) : zCf G sl md T m t c B n s y_Reader_product op (hh + 1) (zlvl B n (zgP B n) F) := fun h hh' e C M Q he hs hr qo qn => by
  obtain ⟨h1, rfl⟩ : ∃ h1, h = h1 + 1 + 1 := ⟨h - 1 - 1, by omega⟩
  refine E_Reader_product hsl (hF (h1 + 1) (by omega) e C M _ he hs hr (fun e1 D1 h2 M1 hM1 hr1 => ⟨fun _ => ?_, fun y => absurd (by decide) y⟩) (fun f p h2 M1 hM1 a b c => ⟨fun y => absurd rfl y, fun _ => qn f p ?_ M1 hM1 a b c⟩))
  · have g := hg _ _ _ he h2
    have el : zlvl B n (zgP B n) F e = zlpp F (zgP B n) (zto B n) 1600 e1 D1 := by unfold zlvl; rw [h2, zbd_ok]
    exact c_productL hsl hn hm hc hF hg (by omega) hs 1600 0 e1 D1 M1 _ rfl g.2.1 g.1 hM1 hr1 (fun e' D' hz => qo e' D' (el.trans hz)) (fun f p hz => qn f p (el.trans hz))
  · unfold zlvl
    rw [h2, zbd_no]
theorem c_sumL {G : zG} {h sl : Nat} (hsl : 1 ≤ sl) {md : Int} {T : zTb} {m : Nat} {t c op : Int} {B : Int → Int} {n s hh dp : Nat} {ok : Int → Bool} {ty : Bool} {F : zPfu} (hn : n ≤ 1600) (hm : m ≤ 8) (hc : zcob c) (hF : zCf G sl md T m t c B n s y_Reader_product op hh F) (hg : zGd ok n dp ty F) (hh' : hh ≤ h + 1) {M0 : zM} {C0 : List Int} {e0 : Nat} {Q : Int → zM → Prop} (hs0 : s + C0.length ≤ e0) :
    ∀ (d i e : Nat) (D : List Int) (M : zM) (u : Nat × Nat × Nat × Nat), d + i = 1600 → e ≤ n → e0 + D.length ≤ e → zSm (zPrp c) M0 M → zRp md T m t c B n s e (C0 ++ D) M → (∀ e' D', zlpp F (zgS B n) (zto B n) d e D = .inr (e', D') → ∀ M', zSm (zPrp c) M0 M' → zRp md T m t c B n s e' (C0 ++ D') M' → Q 1 M') → (∀ f p, zlpp F (zgS B n) (zto B n) d e D = .inl (f, p) → ∀ M', zSm (zPrp c) M0 M' → zRF f p M' → M' 72 6 = c → 0 ≤ M' c 2 → Q 0 M') → zX G (y_Reader_sum, h + 1 + 1, sl) u 12 [(0, (2, 72)), (1, (0, op)), (2, (0, (i : Int)))] [] M Q := by
  intro d
  induction d with
  | zero =>
    intro i e D M u ei he hl hM hr qo qn
    exact B_Reader_sum_12 hsl ⟨fun _ => qo e D rfl M hM hr, fun g => absurd (by omega) g⟩
  | succ d ih =>
    intro i e D M u ei he hl hM hr qo qn
    have stop : zgS B n e = none → Q 1 M := fun cz => qo e D (zlpp_n cz _) M hM hr
    have go : ∀ (j : Int) (M1 : zM) (e1 : Nat), e1 = zto B n e → zgS B n e = some j → 1 ≤ j → j ≤ 11 → e + 1 ≤ e1 → e1 ≤ n → zSm (zPrp c) M0 M1 → zRp md T m t c B n s e1 (C0 ++ D) M1 → zCt G (h + 1) sl 0 0 y_Reader_product [(2, 72), (0, op)] M1 (fun r3 M4 => (¬ r3 = 0 → (zK (M4 72 6) = (0, 0)) ∧ (zCt G (h + 1) sl 0 0 y_Code_add [(2, (M4 72 6)), (0, j + 3), (0, 0)] M4 (fun r6 M7 => (zI ((i : Int) + 1)) ∧ (zX G (y_Reader_sum, h + 1 + 1, sl) u 12 [(0, (2, 72)), (1, (0, op)), (2, (0, ((i : Int) + 1)))] [] M7 Q)))) ∧ (¬ (¬ r3 = 0) → Q 0 M4)) := fun j M1 e1 ee1 cj j1 j11 he1 hn1 hM1 hr1 => by
      refine hF (h + 1) hh' e1 (C0 ++ D) M1 _ hn1 (by simp only [List.length_append]; omega) hr1 (fun e2 D2 h2 M4 hM4 hr4 => ⟨fun _ => ?_, fun y => absurd (by decide) y⟩) (fun f p h2 M4 hM4 h4 h6 h0 => ⟨fun y => absurd rfl y, fun _ => qn f p ?_ M4 (hM1.trans hM4) h4 h6 h0⟩)
      · have g2 := hg _ _ _ hn1 h2
        rw [hr4.2.1.1]
        refine ⟨hc.k, c_add hsl hm hc (by simp only [List.length_append]; omega) hr4 (zcc_j j1 j11) (by omega) (by omega) (fun M7 hM7 hr7 => ⟨by unfold zI; omega, ?_⟩)⟩
        have el : zlpp F (zgS B n) (zto B n) (d + 1) e D = zlpp F (zgS B n) (zto B n) d e2 (D ++ D2 ++ [j]) := by
          rw [zlpp_s cj, ← ee1, h2, zbd_ok]
        have := ih (i + 1) e2 (D ++ D2 ++ [j]) M7 u (by omega) g2.2.1 (by simp only [List.length_append, List.length_cons, List.length_nil]; omega) ((hM1.trans hM4).trans hM7) (by simpa only [List.append_assoc] using hr7) (fun e' D' hz => qo e' D' (el.trans hz)) (fun f p hz => qn f p (el.trans hz))
        rw [zcs] at this
        exact this
      · rw [zlpp_s cj, ← ee1, h2, zbd_no]
    have goS : ∀ (j : Int) (u2 : Nat × Nat × Nat × Nat), u2 = u → zgS B n e = some j → 1 ≤ j → j ≤ 11 → zrk B n e ≠ 0 → zX G (y_Reader_sum, h + 1 + 1, sl) u 51 [(0, (2, 72)), (1, (0, op)), (2, (0, (i : Int)))] [(0, j + 3)] M Q := fun j _ _ cj j1 j11 hz => by
      have hb := zto_b (B := B) he
      have hb3 := hb.2.2 hz
      have hfl := zfr_le B n e
      exact B_Reader_sum_51 hsl (c_taken hsl hn he hr.1 (fun M2 hM2 hr2 => go j M2 _ rfl cj j1 j11 (by omega) hb.2.1 (hM.trans (zPrs_rp hM2)) (hr.mv hm hc hM2 hr2)))
    refine B_Reader_sum_12 hsl ⟨fun g => absurd g (by omega), fun _ => c_isS hsl hn he hr.1 (fun c1 => ⟨fun _ => ?_, fun y => absurd (by decide) y⟩) (fun c1 => ⟨fun y => absurd rfl y, fun _ => c_isS hsl hn he hr.1 (fun c2 => ⟨fun y => absurd y (by decide), fun _ => ?_⟩) (fun c2 => ⟨fun _ => stop (by unfold zgS; rw [if_neg c1, if_neg c2]), fun y => absurd rfl y⟩)⟩)⟩
    · exact B_Reader_sum_37 hsl (c_isS hsl hn he hr.1 (fun c3 => ⟨fun y => absurd y (by decide), fun _ => goS 1 u rfl (by unfold zgS; rw [if_pos c1]) (by decide) (by decide) (by have := (zsg_k c1).2.1; omega)⟩) (fun c3 => absurd c1 c3))
    · exact B_Reader_sum_37 hsl (c_isS hsl hn he hr.1 (fun c3 => absurd c3 c1) (fun c3 => ⟨fun _ => goS 2 u rfl (by unfold zgS; rw [if_neg c1, if_pos c2]) (by decide) (by decide) (by have := (zsg_k c2).2.1; omega), fun y => absurd rfl y⟩))
theorem c_sum {G : zG} {sl : Nat} (hsl : 1 ≤ sl) {md : Int} {T : zTb} {m : Nat} {t c op : Int} {B : Int → Int} {n s hh dp : Nat} {ok : Int → Bool} {ty : Bool} {F : zPfu} (hn : n ≤ 1600) (hm : m ≤ 8) (hc : zcob c) (hF : zCf G sl md T m t c B n s y_Reader_product op hh F) (hg : zGd ok n dp ty F) (h5 : 1 ≤ hh) : zCf G sl md T m t c B n s y_Reader_sum op (hh + 1) (zlvl B n (zgS B n) F) := fun h hh' e C M Q he hs hr qo qn => by
  obtain ⟨h1, rfl⟩ : ∃ h1, h = h1 + 1 + 1 := ⟨h - 1 - 1, by omega⟩
  refine E_Reader_sum hsl (hF (h1 + 1) (by omega) e C M _ he hs hr (fun e1 D1 h2 M1 hM1 hr1 => ⟨fun _ => ?_, fun y => absurd (by decide) y⟩) (fun f p h2 M1 hM1 a b c => ⟨fun y => absurd rfl y, fun _ => qn f p ?_ M1 hM1 a b c⟩))
  · have g := hg _ _ _ he h2
    have el : zlvl B n (zgS B n) F e = zlpp F (zgS B n) (zto B n) 1600 e1 D1 := by unfold zlvl; rw [h2, zbd_ok]
    exact c_sumL hsl hn hm hc hF hg (by omega) hs 1600 0 e1 D1 M1 _ rfl g.2.1 g.1 hM1 hr1 (fun e' D' hz => qo e' D' (el.trans hz)) (fun f p hz => qn f p (el.trans hz))
  · unfold zlvl
    rw [h2, zbd_no]
theorem c_bothL {G : zG} {h sl : Nat} (hsl : 1 ≤ sl) {md : Int} {T : zTb} {m : Nat} {t c op : Int} {B : Int → Int} {n s hh dp : Nat} {ok : Int → Bool} {ty : Bool} {F : zPfu} (hn : n ≤ 1600) (hm : m ≤ 8) (hc : zcob c) (hF : zCf G sl md T m t c B n s y_Reader_fact op hh F) (hg : zGd ok n dp ty F) (hh' : hh ≤ h + 5) {M0 : zM} {C0 : List Int} {e0 : Nat} {Q : Int → zM → Prop} (hs0 : s + C0.length ≤ e0) :
    ∀ (d i e : Nat) (D : List Int) (M : zM) (u : Nat × Nat × Nat × Nat), d + i = 1600 → e ≤ n → e0 + D.length ≤ e → zSm (zPrp c) M0 M → zRp md T m t c B n s e (C0 ++ D) M → (∀ e' D', zlpp F (zgA B n) (zto B n) d e D = .inr (e', D') → ∀ M', zSm (zPrp c) M0 M' → zRp md T m t c B n s e' (C0 ++ D') M' → Q 1 M') → (∀ f p, zlpp F (zgA B n) (zto B n) d e D = .inl (f, p) → ∀ M', zSm (zPrp c) M0 M' → zRF f p M' → M' 72 6 = c → 0 ≤ M' c 2 → Q 0 M') → zX G (y_Reader_both, h + 5 + 1, sl) u 12 [(0, (2, 72)), (1, (0, op)), (2, (0, (i : Int)))] [] M Q := by
  intro d
  induction d with
  | zero =>
    intro i e D M u ei he hl hM hr qo qn
    exact B_Reader_both_12 hsl ⟨fun _ => qo e D rfl M hM hr, fun g => absurd (by omega) g⟩
  | succ d ih =>
    intro i e D M u ei he hl hM hr qo qn
    have stop : zgA B n e = none → Q 1 M := fun cz => qo e D (zlpp_n cz _) M hM hr
    have go : ∀ (j : Int) (M1 : zM) (e1 : Nat), e1 = zto B n e → zgA B n e = some j → 1 ≤ j → j ≤ 11 → e + 1 ≤ e1 → e1 ≤ n → zSm (zPrp c) M0 M1 → zRp md T m t c B n s e1 (C0 ++ D) M1 → zCt G (h + 5) sl 0 0 y_Reader_fact [(2, 72), (0, op)] M1 (fun r3 M4 => (¬ r3 = 0 → (zK (M4 72 6) = (0, 0)) ∧ (zCt G (h + 5) sl 0 0 y_Code_add [(2, (M4 72 6)), (0, j + 3), (0, 0)] M4 (fun r6 M7 => (zI ((i : Int) + 1)) ∧ (zX G (y_Reader_both, h + 5 + 1, sl) u 12 [(0, (2, 72)), (1, (0, op)), (2, (0, ((i : Int) + 1)))] [] M7 Q)))) ∧ (¬ (¬ r3 = 0) → Q 0 M4)) := fun j M1 e1 ee1 cj j1 j11 he1 hn1 hM1 hr1 => by
      refine hF (h + 5) hh' e1 (C0 ++ D) M1 _ hn1 (by simp only [List.length_append]; omega) hr1 (fun e2 D2 h2 M4 hM4 hr4 => ⟨fun _ => ?_, fun y => absurd (by decide) y⟩) (fun f p h2 M4 hM4 h4 h6 h0 => ⟨fun y => absurd rfl y, fun _ => qn f p ?_ M4 (hM1.trans hM4) h4 h6 h0⟩)
      · have g2 := hg _ _ _ hn1 h2
        rw [hr4.2.1.1]
        refine ⟨hc.k, c_add hsl hm hc (by simp only [List.length_append]; omega) hr4 (zcc_j j1 j11) (by omega) (by omega) (fun M7 hM7 hr7 => ⟨by unfold zI; omega, ?_⟩)⟩
        have el : zlpp F (zgA B n) (zto B n) (d + 1) e D = zlpp F (zgA B n) (zto B n) d e2 (D ++ D2 ++ [j]) := by
          rw [zlpp_s cj, ← ee1, h2, zbd_ok]
        have := ih (i + 1) e2 (D ++ D2 ++ [j]) M7 u (by omega) g2.2.1 (by simp only [List.length_append, List.length_cons, List.length_nil]; omega) ((hM1.trans hM4).trans hM7) (by simpa only [List.append_assoc] using hr7) (fun e' D' hz => qo e' D' (el.trans hz)) (fun f p hz => qn f p (el.trans hz))
        rw [zcs] at this
        exact this
      · rw [zlpp_s cj, ← ee1, h2, zbd_no]
    refine B_Reader_both_12 hsl ⟨fun g => absurd g (by omega), fun _ => c_tryW hsl hn he hr.1 zr_and (fun c1 M2 hM2 hr2 => ⟨fun y => absurd y (by decide), fun _ => ?_⟩) (fun c1 => ⟨fun _ => stop (by unfold zgA; rw [if_neg c1]), fun y => absurd rfl y⟩)⟩
    have hb := zwrd_e he c1
    exact go 10 M2 _ rfl (by unfold zgA; rw [if_pos c1]) (by decide) (by decide) hb.1 hb.2 (hM.trans (zPrs_rp hM2)) (hr.mv hm hc hM2 hr2)
theorem c_both {G : zG} {sl : Nat} (hsl : 1 ≤ sl) {md : Int} {T : zTb} {m : Nat} {t c op : Int} {B : Int → Int} {n s hh dp : Nat} {ok : Int → Bool} {ty : Bool} {F : zPfu} (hn : n ≤ 1600) (hm : m ≤ 8) (hc : zcob c) (hF : zCf G sl md T m t c B n s y_Reader_fact op hh F) (hg : zGd ok n dp ty F) (h5 : 5 ≤ hh) : zCf G sl md T m t c B n s y_Reader_both op (hh + 1) (zlvl B n (zgA B n) F) := fun h hh' e C M Q he hs hr qo qn => by
  obtain ⟨h1, rfl⟩ : ∃ h1, h = h1 + 5 + 1 := ⟨h - 5 - 1, by omega⟩
  refine E_Reader_both hsl (hF (h1 + 5) (by omega) e C M _ he hs hr (fun e1 D1 h2 M1 hM1 hr1 => ⟨fun _ => ?_, fun y => absurd (by decide) y⟩) (fun f p h2 M1 hM1 a b c => ⟨fun y => absurd rfl y, fun _ => qn f p ?_ M1 hM1 a b c⟩))
  · have g := hg _ _ _ he h2
    have el : zlvl B n (zgA B n) F e = zlpp F (zgA B n) (zto B n) 1600 e1 D1 := by unfold zlvl; rw [h2, zbd_ok]
    exact c_bothL hsl hn hm hc hF hg (by omega) hs 1600 0 e1 D1 M1 _ rfl g.2.1 g.1 hM1 hr1 (fun e' D' hz => qo e' D' (el.trans hz)) (fun f p hz => qn f p (el.trans hz))
  · unfold zlvl
    rw [h2, zbd_no]
theorem c_testL {G : zG} {h sl : Nat} (hsl : 1 ≤ sl) {md : Int} {T : zTb} {m : Nat} {t c op : Int} {B : Int → Int} {n s hh dp : Nat} {ok : Int → Bool} {ty : Bool} {F : zPfu} (hn : n ≤ 1600) (hm : m ≤ 8) (hc : zcob c) (hF : zCf G sl md T m t c B n s y_Reader_both op hh F) (hg : zGd ok n dp ty F) (hh' : hh ≤ h + 5) {M0 : zM} {C0 : List Int} {e0 : Nat} {Q : Int → zM → Prop} (hs0 : s + C0.length ≤ e0) :
    ∀ (d i e : Nat) (D : List Int) (M : zM) (u : Nat × Nat × Nat × Nat), d + i = 1600 → e ≤ n → e0 + D.length ≤ e → zSm (zPrp c) M0 M → zRp md T m t c B n s e (C0 ++ D) M → (∀ e' D', zlpp F (zgO B n) (zto B n) d e D = .inr (e', D') → ∀ M', zSm (zPrp c) M0 M' → zRp md T m t c B n s e' (C0 ++ D') M' → Q 1 M') → (∀ f p, zlpp F (zgO B n) (zto B n) d e D = .inl (f, p) → ∀ M', zSm (zPrp c) M0 M' → zRF f p M' → M' 72 6 = c → 0 ≤ M' c 2 → Q 0 M') → zX G (y_Reader_test, h + 5 + 1, sl) u 12 [(0, (2, 72)), (1, (0, op)), (2, (0, (i : Int)))] [] M Q := by
  intro d
  induction d with
  | zero =>
    intro i e D M u ei he hl hM hr qo qn
    exact B_Reader_test_12 hsl ⟨fun _ => qo e D rfl M hM hr, fun g => absurd (by omega) g⟩
  | succ d ih =>
    intro i e D M u ei he hl hM hr qo qn
    have stop : zgO B n e = none → Q 1 M := fun cz => qo e D (zlpp_n cz _) M hM hr
    have go : ∀ (j : Int) (M1 : zM) (e1 : Nat), e1 = zto B n e → zgO B n e = some j → 1 ≤ j → j ≤ 11 → e + 1 ≤ e1 → e1 ≤ n → zSm (zPrp c) M0 M1 → zRp md T m t c B n s e1 (C0 ++ D) M1 → zCt G (h + 5) sl 0 0 y_Reader_both [(2, 72), (0, op)] M1 (fun r3 M4 => (¬ r3 = 0 → (zK (M4 72 6) = (0, 0)) ∧ (zCt G (h + 5) sl 0 0 y_Code_add [(2, (M4 72 6)), (0, j + 3), (0, 0)] M4 (fun r6 M7 => (zI ((i : Int) + 1)) ∧ (zX G (y_Reader_test, h + 5 + 1, sl) u 12 [(0, (2, 72)), (1, (0, op)), (2, (0, ((i : Int) + 1)))] [] M7 Q)))) ∧ (¬ (¬ r3 = 0) → Q 0 M4)) := fun j M1 e1 ee1 cj j1 j11 he1 hn1 hM1 hr1 => by
      refine hF (h + 5) hh' e1 (C0 ++ D) M1 _ hn1 (by simp only [List.length_append]; omega) hr1 (fun e2 D2 h2 M4 hM4 hr4 => ⟨fun _ => ?_, fun y => absurd (by decide) y⟩) (fun f p h2 M4 hM4 h4 h6 h0 => ⟨fun y => absurd rfl y, fun _ => qn f p ?_ M4 (hM1.trans hM4) h4 h6 h0⟩)
      · have g2 := hg _ _ _ hn1 h2
        rw [hr4.2.1.1]
        refine ⟨hc.k, c_add hsl hm hc (by simp only [List.length_append]; omega) hr4 (zcc_j j1 j11) (by omega) (by omega) (fun M7 hM7 hr7 => ⟨by unfold zI; omega, ?_⟩)⟩
        have el : zlpp F (zgO B n) (zto B n) (d + 1) e D = zlpp F (zgO B n) (zto B n) d e2 (D ++ D2 ++ [j]) := by
          rw [zlpp_s cj, ← ee1, h2, zbd_ok]
        have := ih (i + 1) e2 (D ++ D2 ++ [j]) M7 u (by omega) g2.2.1 (by simp only [List.length_append, List.length_cons, List.length_nil]; omega) ((hM1.trans hM4).trans hM7) (by simpa only [List.append_assoc] using hr7) (fun e' D' hz => qo e' D' (el.trans hz)) (fun f p hz => qn f p (el.trans hz))
        rw [zcs] at this
        exact this
      · rw [zlpp_s cj, ← ee1, h2, zbd_no]
    refine B_Reader_test_12 hsl ⟨fun g => absurd g (by omega), fun _ => c_tryW hsl hn he hr.1 zr_or (fun c1 M2 hM2 hr2 => ⟨fun y => absurd y (by decide), fun _ => ?_⟩) (fun c1 => ⟨fun _ => stop (by unfold zgO; rw [if_neg c1]), fun y => absurd rfl y⟩)⟩
    have hb := zwrd_e he c1
    exact go 11 M2 _ rfl (by unfold zgO; rw [if_pos c1]) (by decide) (by decide) hb.1 hb.2 (hM.trans (zPrs_rp hM2)) (hr.mv hm hc hM2 hr2)
theorem c_test {G : zG} {sl : Nat} (hsl : 1 ≤ sl) {md : Int} {T : zTb} {m : Nat} {t c op : Int} {B : Int → Int} {n s hh dp : Nat} {ok : Int → Bool} {ty : Bool} {F : zPfu} (hn : n ≤ 1600) (hm : m ≤ 8) (hc : zcob c) (hF : zCf G sl md T m t c B n s y_Reader_both op hh F) (hg : zGd ok n dp ty F) (h5 : 5 ≤ hh) : zCf G sl md T m t c B n s y_Reader_test op (hh + 1) (zlvl B n (zgO B n) F) := fun h hh' e C M Q he hs hr qo qn => by
  obtain ⟨h1, rfl⟩ : ∃ h1, h = h1 + 5 + 1 := ⟨h - 5 - 1, by omega⟩
  refine E_Reader_test hsl (hF (h1 + 5) (by omega) e C M _ he hs hr (fun e1 D1 h2 M1 hM1 hr1 => ⟨fun _ => ?_, fun y => absurd (by decide) y⟩) (fun f p h2 M1 hM1 a b c => ⟨fun y => absurd rfl y, fun _ => qn f p ?_ M1 hM1 a b c⟩))
  · have g := hg _ _ _ he h2
    have el : zlvl B n (zgO B n) F e = zlpp F (zgO B n) (zto B n) 1600 e1 D1 := by unfold zlvl; rw [h2, zbd_ok]
    exact c_testL hsl hn hm hc hF hg (by omega) hs 1600 0 e1 D1 M1 _ rfl g.2.1 g.1 hM1 hr1 (fun e' D' hz => qo e' D' (el.trans hz)) (fun f p hz => qn f p (el.trans hz))
  · unfold zlvl
    rw [h2, zbd_no]
