/-! PARSER, the class: parts. -/
theorem zRp.f {md : Int} {T : zTb} {m : Nat} {t c : Int} {B : Int → Int} {n s e : Nat} {C : List Int} {M M' : zM} (hc : zcob c) (h : zRp md T m t c B n s e C M) (hM : zSm zPrs M M') : M' 72 6 = c ∧ 0 ≤ M' c 2 := by
  obtain ⟨h1, ⟨h2, h3, h4⟩, ⟨h5, h6⟩, h7⟩ := h
  unfold zcob at hc
  exact ⟨by rw [hM _ _ (by unfold zPrs; omega)]; exact h2, by rw [hM _ _ (by unfold zPrs; omega), h5]; omega⟩
theorem zRF.fr {f p : Int} {M M' : zM} (h : zRF f p M) (e : ∀ k, M' 72 k = M 72 k) : zRF f p M' := ⟨by rw [e]; exact h.1, by rw [e]; exact h.2⟩
theorem c_takeOpen {G : zG} {h sl : Nat} (hsl : 1 ≤ sl) {B : Int → Int} {n e : Nat} {x op : Int} {M : zM} {Q : Int → zM → Prop} (hn : n ≤ 1600) (he : e ≤ n) (hr : zRd B n e M) (q1 : zsg B n e x = true → op < 6 → ∀ M', zSm zPrs M M' → zRd B n (zto B n e) M' → Q 1 M') (q4 : zsg B n e x = true → ¬ op < 6 → ∀ M', zSm zPrs M M' → zRF 4 (zfr B n e : Nat) M' → Q 0 M') (q0 : ¬ zsg B n e x = true → ∀ M', zSm zPrs M M' → zRF 1 (zfr B n e : Nat) M' → Q 0 M') : zCt G (h + 2) sl 0 0 y_Reader_takeOpen [(2, 72), (0, x), (0, op)] M Q := by
  refine E_Reader_takeOpen hsl (c_isS hsl hn he hr (fun c => ⟨fun _ => ⟨fun g => c_taken hsl hn he hr (q1 c g), fun g => ?_⟩, fun y => absurd (by decide) y⟩) (fun c => ⟨fun y => absurd rfl y, fun _ => c_unfit0 hsl hr (q0 c)⟩))
  rw [hr.2.1]
  exact c_refuse0 hsl hr.1.2.2 (q4 c g)
theorem znum_no {B : Int → Int} {n e : Nat} {lo hi f p : Int} (h : znum B n e lo hi = .inl (f, p)) : f ≠ 0 := by
  unfold znum at h
  by_cases c1 : ¬ zkd B n e = 2
  · rw [if_pos c1] at h; injection h with h; injection h with h1 h2; omega
  · rw [if_neg c1] at h
    by_cases c2 : 4 < zto B n e - zfr B n e
    · rw [if_pos c2] at h; injection h with h; injection h with h1 h2; omega
    · rw [if_neg c2] at h
      by_cases c3 : zdg B (zfr B n e : Nat) (zto B n e - zfr B n e) < lo ∨ hi < zdg B (zfr B n e : Nat) (zto B n e - zfr B n e)
      · rw [if_pos c3] at h; injection h with h; injection h with h1 h2; omega
      · rw [if_neg c3] at h; nomatch h
theorem zins_s {B : Int → Int} {n : Nat} {f : zPfu} {e : Nat} {g : zPfu → zRs (Nat × List Int)} : zins B n (some f) e g = g f := rfl
/-- what may stand inside: none open any more, or the methods one deeper -/
def zIc (G : zG) (sl : Nat) (md : Int) (T : zTb) (m : Nat) (t c : Int) (B : Int → Int) (n s : Nat) (y : zYt) (op : Int) (hh : Nat) (ok : Int → Bool) (ty : Bool) (dp : Nat) (I : Option zPfu) : Prop :=
  (I = none → ¬ op < 6) ∧ ∀ f, I = some f → op < 6 ∧ zCf G sl md T m t c B n s y (op + 1) hh f ∧ zGd ok n dp ty f
theorem c_rpair {G : zG} {h sl : Nat} (hsl : 1 ≤ sl) {md : Int} {T : zTb} {m : Nat} {t c op j : Int} {B : Int → Int} {n s hh dp e : Nat} {ok : Int → Bool} {I : Option zPfu} {C : List Int} {M : zM} {Q : Int → zM → Prop} (hn : n ≤ 1600) (hm : m ≤ 8) (hc : zcob c) (h0 : 0 ≤ op ∧ op ≤ 6) (hI : zIc G sl md T m t c B n s y_Reader_part op hh ok false dp I) (h5 : 1 ≤ hh) (hh' : hh ≤ h) (hj : 5 ≤ j ∧ j ≤ 6) (he : e ≤ n) (hs : s + C.length + 1 ≤ e) (hr : zRp md T m t c B n s e C M)
    (qo : ∀ e' D, zpair B n I e j = .inr (e', D) → ∀ M', zSm (zPrp c) M M' → zRp md T m t c B n s e' (C ++ D) M' → Q 1 M') (qn : ∀ f p, zpair B n I e j = .inl (f, p) → ∀ M', zSm (zPrp c) M M' → zRF f p M' → M' 72 6 = c → 0 ≤ M' c 2 → Q 0 M') : zCt G (h + 3) sl 0 0 y_Reader_pair [(2, 72), (0, op), (0, j + 3)] M Q := by
  have zn : ∀ x : Int, ¬ x = -1 ∨ x = -1 := fun x => by omega
  -- a fault on the way
  have bad : ∀ (f p : Int) (M1 : zM) u, zpair B n I e j = .inl (f, p) → zSm (zPrp c) M M1 → zRF f p M1 → M1 72 6 = c → 0 ≤ M1 c 2 → zX G (y_Reader_pair, h + 2 + 1, sl) u 53 [(0, (2, 72)), (2, (0, j + 3))] [(0, 0)] M1 Q := fun f p M1 u ez hM1 h1 h6 hz => by
    refine B_Reader_pair_53 hsl ?_
    rw [h6]
    exact ⟨hc.k, c_addF hsl hc hz (by omega) (by omega) (fun M2 hM2 e72 h02 => ⟨Or.inl rfl, qn f p ez M2 (hM1.trans hM2) (h1.fr e72) (by rw [e72]; exact h6) h02⟩)⟩
  unfold zpair at qo bad
  refine E_Reader_pair hsl (c_takeOpen hsl hn he hr.1 (fun c1 c2 M1 hM1 hr1 => ⟨fun y => absurd y (by decide), fun _ => ⟨by unfold zI; omega, ?_⟩⟩) (fun c1 c2 M1 hM1 h1 => ⟨fun _ => ?_, fun y => absurd rfl y⟩) (fun c1 M1 hM1 h1 => ⟨fun _ => bad _ _ M1 _ (by rw [if_pos c1]) (zPrs_rp hM1) h1 (hr.f hc hM1).1 (hr.f hc hM1).2, fun y => absurd rfl y⟩))
  · rw [if_neg (fun y => y c1)] at qo bad
    have hb := zsg_e he c1
    have hr1 := hr.mv hm hc hM1 hr1
    cases ci : I with
    | none => exact absurd c2 (hI.1 ci)
    | some f =>
      rw [ci] at qo bad
      have hf := hI.2 f ci
      have hS : zCf G sl md T m t c B n s y_Reader_sum (op + 1) (hh + 2) (zsumF B n f) := c_sum hsl hn hm hc (c_product hsl hn hm hc hf.2.1 hf.2.2 h5) (zprod_gd hf.2.2) (by omega)
      have gS := zsum_gd (B := B) hf.2.2
      rw [zins_s] at qo bad
      have zM1 := zPrs_rp (c := c) hM1
      refine hS (h + 2) (by omega) (zto B n e) C M1 _ hb.2 (by omega) hr1 (fun e2 D2 h2 M2 hM2 hr2 => ⟨fun y => absurd y (by decide), fun _ => ?_⟩) (fun fz p h2 M2 hM2 a1 a2 a3 => ⟨fun _ => bad fz p M2 _ (by rw [h2]; rfl) (zM1.trans hM2) a1 a2 a3, fun y => absurd rfl y⟩)
      have g2 := gS _ _ _ hb.2 h2
      have zM2 := zM1.trans hM2
      refine c_takeSign hsl hn g2.2.1 hr2.1 (fun c3 M3 hM3 hr3 => ⟨fun y => absurd y (by decide), fun _ => ?_⟩) (fun c3 M3 hM3 h3 => ⟨fun _ => bad _ _ M3 _ (by rw [h2]; show zbd (zsgn B n e2 44) _ = _; unfold zsgn; rw [if_neg c3]; rfl) (zM2.trans (zPrs_rp hM3)) h3 (hr2.f hc hM3).1 (hr2.f hc hM3).2, fun y => absurd rfl y⟩)
      have hr3 := hr2.mv hm hc hM3 hr3
      have hb3 := zsg_e g2.2.1 c3
      have zM3 := zM2.trans (zPrs_rp (c := c) hM3)
      refine hS (h + 2) (by omega) (zto B n e2) (C ++ D2) M3 _ hb3.2 (by simp only [List.length_append]; omega) hr3 (fun e4 D4 h4 M4 hM4 hr4 => ⟨fun y => absurd y (by decide), fun _ => ?_⟩) (fun fz p h4 M4 hM4 a1 a2 a3 => ⟨fun _ => bad fz p M4 _ (by rw [h2]; show zbd (zsgn B n e2 44) _ = _; unfold zsgn; rw [if_pos c3]; show zbd (zsumF B n f (zto B n e2)) _ = _; rw [h4]; rfl) (zM3.trans hM4) a1 a2 a3, fun y => absurd rfl y⟩)
      have g4 := gS _ _ _ hb3.2 h4
      have zM4 := zM3.trans hM4
      refine c_takeSign hsl hn g4.2.1 hr4.1 (fun c5 M5 hM5 hr5 => ⟨fun y => absurd y (by decide), fun _ => B_Reader_pair_53 hsl ?_⟩) (fun c5 M5 hM5 h5 => ⟨fun _ => bad _ _ M5 _ (by rw [h2]; show zbd (zsgn B n e2 44) _ = _; unfold zsgn; rw [if_pos c3]; show zbd (zsumF B n f (zto B n e2)) _ = _; rw [h4]; show zbd (if zsg B n e4 41 = true then _ else _) _ = _; rw [if_neg c5]; rfl) (zM4.trans (zPrs_rp hM5)) h5 (hr4.f hc hM5).1 (hr4.f hc hM5).2, fun y => absurd rfl y⟩)
      have hr5 := hr4.mv hm hc hM5 hr5
      have hb5 := zsg_e g4.2.1 c5
      have zM5 := zM4.trans (zPrs_rp (c := c) hM5)
      rw [hr5.2.1.1]
      refine ⟨hc.k, c_add hsl hm hc (by simp only [List.length_append]; omega) hr5 (zcc_j (j := j) (by omega) (by omega)) (by omega) (by omega) (fun M6 hM6 hr6 => ⟨Or.inr rfl, qo (zto B n e4) (D2 ++ D4 ++ [j]) ?_ M6 (zM5.trans hM6) (by simpa only [List.append_assoc] using hr6)⟩)⟩
      rw [h2]; show zbd (zsgn B n e2 44) _ = _; unfold zsgn; rw [if_pos c3]; show zbd (zsumF B n f (zto B n e2)) _ = _; rw [h4]; show zbd (if zsg B n e4 41 = true then _ else _) _ = _; rw [if_pos c5]; rfl
  · rw [if_neg (fun y => y c1)] at bad
    cases ci : I with
    | none =>
      rw [ci] at bad
      exact bad _ _ M1 _ rfl (zPrs_rp hM1) h1 (hr.f hc hM1).1 (hr.f hc hM1).2
    | some f => exact absurd (hI.2 f ci).1 c2
theorem c_toldOfColumn {G : zG} {h sl : Nat} (hsl : 1 ≤ sl) {T : zTb} {m : Nat} {B : Int → Int} {n e : Nat} {M : zM} {Q : Int → zM → Prop} (hn : n ≤ 1600) (he : e ≤ n) (hr : zRd B n e M) (q0 : ztld 2 T m B n e = -1 → Q (-1) M) (q1 : ¬ ztld 2 T m B n e = -1 → Q (zix true (40 + ztld 2 T m B n e)) M) : zCt G (h + 5) sl 0 0 y_Reader_toldOfColumn [(2, 72)] M Q := by
  have key : ∀ w r : Int, ztld 2 T m B n e = w → ¬ w = -1 → zix true (40 + w) = r → Q r M := fun w r ew w1 er => by
    rw [ew, er] at q1
    exact q1 w1
  unfold ztld at q0 key
  rw [if_pos rfl] at q0 key
  refine E_Reader_toldOfColumn hsl (c_isW hsl hn he hr zr_number (fun c => ⟨fun y => absurd y (by decide), fun _ => key 2 0 (by rw [if_pos c]) (by decide) (by decide)⟩) (fun c => ⟨fun _ => ?_, fun y => absurd rfl y⟩))
  rw [if_neg c] at q0 key
  refine c_isW hsl hn he hr zr_sort (fun c => ⟨fun y => absurd y (by decide), fun _ => key 3 1 (by rw [if_pos c]) (by decide) (by decide)⟩) (fun c => ⟨fun _ => ?_, fun y => absurd rfl y⟩)
  rw [if_neg c] at q0 key
  refine c_isW hsl hn he hr zr_value (fun c => ⟨fun y => absurd y (by decide), fun _ => key 4 2 (by rw [if_pos c]) (by decide) (by decide)⟩) (fun c => ⟨fun _ => ?_, fun y => absurd rfl y⟩)
  rw [if_neg c] at q0 key
  refine c_isW hsl hn he hr zr_drift (fun c => ⟨fun y => absurd y (by decide), fun _ => key 5 3 (by rw [if_pos c]) (by decide) (by decide)⟩) (fun c => ⟨fun _ => ?_, fun y => absurd rfl y⟩)
  rw [if_neg c] at q0 key
  refine c_isW hsl hn he hr zr_line (fun c => ⟨fun y => absurd y (by decide), fun _ => key 0 4 (by rw [if_pos c]) (by decide) (by decide)⟩) (fun c => ⟨fun _ => ?_, fun y => absurd rfl y⟩)
  rw [if_neg c] at q0
  exact q0 rfl
theorem c_toldOfLine {G : zG} {h sl : Nat} (hsl : 1 ≤ sl) {md : Int} {T : zTb} {m : Nat} {t : Int} {B : Int → Int} {n e : Nat} {M : zM} {Q : Int → zM → Prop} (hn : n ≤ 1600) (hm : m ≤ 8) (he : e ≤ n) (hr : zRd B n e M) (hN : zNc T m t M) (h2 : ¬ md = 2) (h8 : M 72 8 = (if md = 0 then 1 else 0)) (q0 : ztld md T m B n e = -1 → Q (-1) M) (q1 : ¬ ztld md T m B n e = -1 → Q (zix false (40 + ztld md T m B n e)) M) : zCt G (h + 5) sl 0 0 y_Reader_toldOfLine [(2, 72)] M Q := by
  have key : ∀ w r : Int, ztld md T m B n e = w → ¬ w = -1 → zix false (40 + w) = r → Q r M := fun w r ew w1 er => by
    rw [ew, er] at q1
    exact q1 w1
  unfold ztld at q0 key
  rw [if_neg h2] at q0 key
  refine E_Reader_toldOfLine hsl (c_isW hsl hn he hr zr_line (fun c => ⟨fun y => absurd y (by decide), fun _ => key 0 8 (by rw [if_pos c]) (by decide) (by decide)⟩) (fun c => ⟨fun _ => ?_, fun y => absurd rfl y⟩))
  rw [if_neg c] at q0 key
  have col : ¬ (md = 0 ∧ zwrd B n e zo_prev = true) → ∀ u, zX G (y_Reader_toldOfLine, h + 4 + 1, sl) u 33 [(0, (2, 72))] [] M Q := fun c2 u => by
    rw [if_neg c2] at q0 key
    refine B_Reader_toldOfLine_33 hsl (c_columnHere hsl hn he hr hN hm ?_)
    by_cases c3 : zcnm T m B n e = -1
    · rw [if_pos c3] at q0
      rw [c3]
      exact q0 rfl
    · rw [if_neg c3] at key
      have hv := zcnm_v T m B n e
      exact key _ _ rfl (by omega) (by unfold zix; rw [if_pos (by omega)]; omega)
  rw [h8]
  by_cases c0 : md = 0
  · rw [if_pos c0]
    refine ⟨fun y => absurd y (by decide), fun _ => c_isW hsl hn he hr zr_prev (fun c2 => ⟨fun y => absurd y (by decide), fun _ => key 1 9 (by rw [if_pos ⟨c0, c2⟩]) (by decide) (by decide)⟩) (fun c2 => ⟨fun _ => col (fun y => c2 y.2) _, fun y => absurd rfl y⟩)⟩
  · rw [if_neg c0]
    exact ⟨fun _ => col (fun y => c0 y.1) _, fun y => absurd rfl y⟩
