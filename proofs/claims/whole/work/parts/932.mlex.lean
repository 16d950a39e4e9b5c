/-! THE MODEL: words. -/
def zMx (B : Int → Int) (n : Nat) (M : zM) : Prop := (M 125 3 = n ∧ M 125 6 = -1) ∧ zAr M 126 n B ∧ M 125 5 = 0
/-- the Model stands behind e -/
def zMd (B : Int → Int) (n e : Nat) (M : zM) : Prop := zMx B n M ∧ ((e : Int) ≤ M 125 2 ∧ M 125 2 ≤ (zfr B n e : Nat)) ∧ (0 < e ∧ zkdo (B ((e : Int) - 1)) ≠ 3 → M 125 4 = e) ∧ (¬ (0 < e ∧ zkdo (B ((e : Int) - 1)) ≠ 3) → M 125 4 < e)
def zMe (B : Int → Int) (n e : Nat) (M : zM) : Prop := zMd B n e M ∧ M 125 2 = (zfr B n e : Nat)
def zPwl : Int → Int → Prop := fun a k => a = 125 ∧ k = 2
def zPmt : Int → Int → Prop := fun a k => a = 125 ∧ (k = 2 ∨ k = 4 ∨ k = 5 ∨ k = 6 ∨ k = 10 ∨ k = 41)
theorem zPwl_mt {M M' : zM} (h : zSm zPwl M M') : zSm zPmt M M' := h.mono (fun a k p => by unfold zPwl at p; unfold zPmt; omega)
/-- a fault stands -/
def zMF (f p : Int) (M : zM) : Prop := M 125 5 = f ∧ M 125 6 = p
theorem zMx.fr {B : Int → Int} {n : Nat} {M M' : zM} (e : ∀ a k, a = 126 ∨ a = 125 ∧ (k = 3 ∨ k = 5 ∨ k = 6) → M' a k = M a k) (h : zMx B n M) : zMx B n M' := ⟨⟨by rw [e _ _ (by omega)]; exact h.1.1, by rw [e _ _ (by omega)]; exact h.1.2⟩, h.2.1.fr (fun k => e _ _ (by omega)), by rw [e _ _ (by omega)]; exact h.2.2⟩
theorem zMd.fr {B : Int → Int} {n e : Nat} {M M' : zM} (f : ∀ a k, a = 126 ∨ a = 125 ∧ 2 ≤ k ∧ k ≤ 6 → M' a k = M a k) (h : zMd B n e M) : zMd B n e M' := by
  unfold zMd at h ⊢
  rw [f 125 2 (by omega), f 125 4 (by omega)]
  exact ⟨h.1.fr (fun a k p => f a k (by omega)), h.2⟩
theorem zMe.fr {B : Int → Int} {n e : Nat} {M M' : zM} (f : ∀ a k, a = 126 ∨ a = 125 ∧ 2 ≤ k ∧ k ≤ 6 → M' a k = M a k) (h : zMe B n e M) : zMe B n e M' := ⟨h.1.fr f, by rw [f _ _ (by omega)]; exact h.2⟩
theorem zMd.mv {B : Int → Int} {n e : Nat} {M : zM} {v : Int} (h : zMd B n e M) (h1 : (e : Int) ≤ v) (h2 : v ≤ (zfr B n e : Nat)) : zMd B n e (zwr M 125 2 v) := by
  unfold zMd at h ⊢
  rw [zwr_s, zwr_k _ (by decide)]
  exact ⟨h.1.fr (fun a k p => by rw [zwr_i, if_neg (by omega)]), ⟨h1, h2⟩, h.2.2⟩
theorem m_look52 {G : zG} {h sl : Nat} (hsl : 2 ≤ sl) {B : Int → Int} {n e : Nat} {M0 M : zM} {u : Nat × Nat × Nat × Nat} {Q : Int → zM → Prop} (hn : n ≤ 1600) (hM : zSm zPwl M0 M) (hx : zMd B n e M) (h2 : M 125 2 = (zfr B n e : Nat)) (q : ∀ M', zSm zPwl M0 M' → zMe B n e M' → Q (if zfr B n e < n then B (zfr B n e : Nat) else -1) M') : zX G (y_Md_look, h, sl) u 52 [(0, (2, 125))] [] M Q := by
  have q := q M hM ⟨hx, h2⟩
  refine B_Md_look_52 hsl ?_
  rw [hx.1.1.1, h2]
  refine ⟨fun g => ?_, fun g => ⟨by omega, ?_⟩⟩
  · rw [if_neg (by omega)] at q; exact q
  · rw [if_pos (by omega)] at q; rw [hx.1.2.1 _ (by omega) (by omega)]; exact q
theorem m_lookL {G : zG} {h sl : Nat} (hsl : 2 ≤ sl) {B : Int → Int} {n e : Nat} {M0 : zM} {Q : Int → zM → Prop} (hn : n ≤ 1600) (he : e ≤ n) (q : ∀ M', zSm zPwl M0 M' → zMe B n e M' → Q (if zfr B n e < n then B (zfr B n e : Nat) else -1) M') :
    ∀ (d i : Nat) {M : zM} {u : Nat × Nat × Nat × Nat}, n ≤ d + i → zSm zPwl M0 M → zMd B n e M → M 125 2 = (i : Int) → zX G (y_Md_look, h, sl) u 0 [(0, (2, 125))] [] M Q
  | 0, i, M, u, hd, hM, hx, h2 => by
    have hb := hx.2.1
    have hi := zfr_mid (B := B) (n := n) (e := e) (a := i) (by omega) (by omega)
    refine B_Md_look_0 hsl ⟨fun g => ?_, fun g => absurd (by rw [hx.1.1.1]; omega) g⟩
    exact m_look52 hsl hn hM hx (by rw [h2, ← hi, zfr_0 (by omega)]) q
  | d + 1, i, M, u, hd, hM, hx, h2 => by
    have hb := hx.2.1
    have hi := zfr_mid (B := B) (n := n) (e := e) (a := i) (by omega) (by omega)
    have go : i < n ∧ (B i = 10 ∨ B i = 32) → zX G (y_Md_look, h, sl) u 0 [(0, (2, 125))] [] (zwr M 125 2 ((i : Int) + 1)) Q := fun c => by
      have h1 := zfr_1 c
      have h3 := zfr_le B n (i + 1)
      exact m_lookL (G := G) (h := h) (Q := Q) hsl hn he q d (i + 1) (by omega) (hM.wr ⟨rfl, rfl⟩) (hx.mv (by omega) (by omega)) (by rw [zwr_s]; omega)
    refine B_Md_look_0 hsl ?_
    rw [hx.1.1.1, h2]
    refine ⟨fun g => m_look52 hsl hn hM hx (by rw [h2, ← hi, zfr_0 (by omega)]) q, fun g => ⟨by omega, ?_⟩⟩
    rw [hx.1.2.1 _ (by omega) (by omega)]
    exact ⟨fun c => ⟨by unfold zI; omega, go ⟨by omega, Or.inl c⟩⟩, fun c => ⟨fun c2 => m_look52 hsl hn hM hx (by rw [h2, ← hi, zfr_0 (by omega)]) q, fun c2 => ⟨by unfold zI; omega, go ⟨by omega, by omega⟩⟩⟩⟩
theorem m_look {G : zG} {h sl : Nat} (hsl : 2 ≤ sl) {B : Int → Int} {n e : Nat} {M : zM} {Q : Int → zM → Prop} (hn : n ≤ 1600) (he : e ≤ n) (hx : zMd B n e M) (q : ∀ M', zSm zPwl M M' → zMe B n e M' → Q (if zfr B n e < n then B (zfr B n e : Nat) else -1) M') : zCt G h sl 0 0 y_Md_look [(2, 125)] M Q := by
  have hb := hx.2.1
  have hf := zfr_n (B := B) he
  obtain ⟨i, h2⟩ : ∃ i : Nat, M 125 2 = (i : Int) := ⟨(M 125 2).toNat, by omega⟩
  have hi := zfr_mid (B := B) (n := n) (e := e) (a := i) (by omega) (by omega)
  have go : i < n ∧ (B i = 10 ∨ B i = 32) → zX G (y_Md_look, h, sl) (0, 0, 0, 0) 0 [(0, (2, 125))] [] (zwr M 125 2 ((i : Int) + 1)) Q := fun c => by
    have h1 := zfr_1 c
    have h3 := zfr_le B n (i + 1)
    exact m_lookL (G := G) (h := h) (M0 := M) (Q := Q) hsl hn he q n (i + 1) (by omega) ((zSm.refl _ M).wr ⟨rfl, rfl⟩) (hx.mv (by omega) (by omega)) (by rw [zwr_s]; omega)
  refine E_Md_look hsl ?_
  rw [hx.1.1.1, h2]
  refine ⟨fun g => m_look52 hsl hn (zSm.refl _ M) hx (by rw [h2, ← hi, zfr_0 (by omega)]) q, fun g => ⟨by omega, ?_⟩⟩
  rw [hx.1.2.1 _ (by omega) (by omega)]
  exact ⟨fun c => ⟨by unfold zI; omega, go ⟨by omega, Or.inl c⟩⟩, fun c => ⟨fun c2 => m_look52 hsl hn (zSm.refl _ M) hx (by rw [h2, ← hi, zfr_0 (by omega)]) q, fun c2 => ⟨by unfold zI; omega, go ⟨by omega, by omega⟩⟩⟩⟩
theorem m_isLetter {G : zG} {h sl : Nat} (hsl : 2 ≤ sl) {x : Int} {M : zM} {Q : Int → zM → Prop} (q1 : zkdo x = 1 → Q 1 M) (q0 : ¬ zkdo x = 1 → Q 0 M) : zCt G h sl 0 0 y_Md_isLetter [(0, x)] M Q :=
  E_Md_isLetter hsl ⟨fun g => q0 (by rw [zkdo_1]; omega), fun g => ⟨fun g2 => q0 (by rw [zkdo_1]; omega), fun g2 => q1 (by rw [zkdo_1]; omega)⟩⟩
theorem m_isDigit {G : zG} {h sl : Nat} (hsl : 2 ≤ sl) {x : Int} {M : zM} {Q : Int → zM → Prop} (q1 : zkdo x = 2 → Q 1 M) (q0 : ¬ zkdo x = 2 → Q 0 M) : zCt G h sl 0 0 y_Md_isDigit [(0, x)] M Q :=
  E_Md_isDigit hsl ⟨fun g => q0 (by rw [zkdo_2]; omega), fun g => ⟨fun g2 => q0 (by rw [zkdo_2]; omega), fun g2 => q1 (by rw [zkdo_2]; omega)⟩⟩
/-- what look says, by kinds -/
theorem zlk_k {B : Int → Int} {n e : Nat} {k : Int} (hk : k = 1 ∨ k = 2) : zkdo (if zfr B n e < n then B (zfr B n e : Nat) else -1) = k ↔ zrk B n e = k := by
  unfold zrk
  by_cases c : zfr B n e < n
  · rw [if_pos c, if_pos c]
  · rw [if_neg c, if_neg c, show zkdo (-1) = 3 from by decide]; omega
/-- at = ended just where words are glued -/
theorem zMe.gl {B : Int → Int} {n e : Nat} {M : zM} (h : zMe B n e M) (hk : zrk B n e = 1 ∨ zrk B n e = 2) : M 125 2 = M 125 4 ↔ zkd B n e = 4 := by
  have hf := zfr_le B n e
  have h2 := h.2
  have h3 := h.1.2.2
  unfold zkd
  by_cases c : 0 < e ∧ zkdo (B ((e : Int) - 1)) ≠ 3
  · have h4 := h3.1 c
    by_cases d : zfr B n e = e
    · rw [if_pos ⟨d, c.1, c.2, hk⟩, h2, h4, d]; omega
    · rw [if_neg (fun y => d y.1), h2, h4]; omega
  · have h4 := h3.2 c
    rw [if_neg (fun y => c ⟨y.2.1, y.2.2.1⟩), h2]; omega
theorem zto_al {B : Int → Int} {n e : Nat} (hk : zrk B n e = 1 ∨ zrk B n e = 2) : 0 < zto B n e ∧ zkdo (B ((zto B n e : Int) - 1)) ≠ 3 := by
  have hl := zrk_lt (B := B) (n := n) (e := e) (by omega)
  have h1 : zkdo (B (zfr B n e : Nat)) = zrk B n e := by unfold zrk; rw [if_pos hl]
  have et : zto B n e = zru B n (zrk B n e) (zfr B n e) := by
    unfold zto
    rw [if_neg (by omega), if_neg (by omega), zru_1 (e := zfr B n e) ⟨hl, h1⟩]
  have et2 : zto B n e = zru B n (zrk B n e) (zfr B n e + 1) := by
    unfold zto
    rw [if_neg (by omega), if_neg (by omega)]
  have hle := zru_le B n (zrk B n e) (zfr B n e + 1)
  have hz := zru_k (B := B) (n := n) (e := zfr B n e) (k := zrk B n e) (a := zto B n e - 1) (by omega) (by omega)
  refine ⟨by omega, ?_⟩
  rw [show ((zto B n e : Nat) : Int) - 1 = ((zto B n e - 1 : Nat) : Int) from by omega, hz]
  omega
/-- a word or number was taken -/
theorem zMd.tk {B : Int → Int} {n e : Nat} {M M' : zM} {x : Int} (hx : zMx B n M) (hk : zrk B n e = 1 ∨ zrk B n e = 2) (f : ∀ a k, a = 126 ∨ a = 125 ∧ (k = 3 ∨ k = 5 ∨ k = 6) → M' a k = M a k) (h2 : M' 125 2 = x) (h4 : M' 125 4 = x) (ex : x = (zto B n e : Nat)) : zMd B n (zto B n e) M' := by
  have h := zto_al hk
  have hf := zfr_le B n (zto B n e)
  exact ⟨hx.fr f, ⟨by omega, by omega⟩, fun _ => by omega, fun y => absurd h y⟩
/-- a sign was taken -/
theorem zMd.sg {B : Int → Int} {n e : Nat} {M : zM} {x : Int} (hx : zMe B n e M) (hk : zrk B n e = 3) (ex : x = (zfr B n e : Nat) + 1) : zMd B n (zto B n e) (zwr M 125 2 x) := by
  have hl := zrk_lt (B := B) (n := n) (e := e) (by omega)
  have h1 : zkdo (B (zfr B n e : Nat)) = 3 := by unfold zrk at hk; rw [if_pos hl] at hk; exact hk
  have et : zto B n e = zfr B n e + 1 := by unfold zto; rw [if_neg (by omega), if_pos hk]
  have hf := zfr_le B n (zto B n e)
  have hf2 := zfr_le B n e
  have h3 := hx.1.2.2
  have h4 : M 125 4 ≤ e := by
    by_cases c : 0 < e ∧ zkdo (B ((e : Int) - 1)) ≠ 3
    · have := h3.1 c; omega
    · have := h3.2 c; omega
  refine ⟨hx.1.1.fr (fun a k p => by rw [zwr_i, if_neg (by omega)]), by rw [zwr_s]; omega, fun y => ?_, fun y => ?_⟩
  · exact absurd (by rw [show ((zto B n e : Nat) : Int) - 1 = ((zfr B n e : Nat) : Int) from by omega]; exact h1) y.2
  · rw [zwr_k _ (by decide)]; omega
theorem m_isHereL {G : zG} {h sl : Nat} (hsl : 2 ≤ sl) {B : Int → Int} {n e : Nat} {o : Int} {w : List Int} {M : zM} {Q : Int → zM → Prop} (hn : n ≤ 1600) (hr : zMe B n e M) (hw : zWo o w) (hl : zfr B n e + w.length ≤ n) (q : Q (if ∀ j, j < w.length → B ((zfr B n e + j : Nat) : Int) = w.getD j 0 then 1 else 0) M) :
    ∀ (d k : Nat) {u : Nat × Nat × Nat × Nat}, d + k = w.length → (∀ j, j < k → B ((zfr B n e + j : Nat) : Int) = w.getD j 0) → zX G (y_Md_isHere, h + 1, sl) u 76 [(0, (2, 125)), (1, (2, o)), (3, (0, (k : Int)))] [] M Q
  | 0, k, u, ek, hj => by
    refine B_Md_isHere_76 hsl ⟨hw.1, ?_⟩
    rw [hw.2.1]
    rw [if_pos (fun j h => hj j (by omega))] at q
    exact ⟨by omega, fun _ => q, fun g => absurd (by omega) g⟩
  | d + 1, k, u, ek, hj => by
    refine B_Md_isHere_76 hsl ⟨hw.1, ?_⟩
    rw [hw.2.1, hr.2]
    refine ⟨by omega, fun g => absurd g (by omega), fun _ => ⟨by unfold zI; omega, by omega, by omega, ?_⟩⟩
    have hb := hr.1.1.2.1 ((zfr B n e + k : Nat) : Int) (by omega) (by omega)
    rw [show ((zfr B n e + k : Nat) : Int) = ((zfr B n e : Nat) : Int) + (k : Int) from by omega] at hb
    rw [hb, hw.2.2 k (by omega)]
    refine ⟨fun g => ⟨by unfold zI; omega, ?_⟩, fun g => ?_⟩
    · have := m_isHereL (G := G) (h := h) (Q := Q) hsl hn hr hw hl q d (k + 1) (u := u) (by omega) (fun j hjk => by
        by_cases c : j = k
        · subst c
          rw [show ((zfr B n e + j : Nat) : Int) = ((zfr B n e : Nat) : Int) + (j : Int) from by omega]
          exact g
        · exact hj j (by omega))
      rw [zcs] at this
      exact this
    · rw [if_neg (fun y => g (by have := y k (by omega); rw [show ((zfr B n e + k : Nat) : Int) = ((zfr B n e : Nat) : Int) + (k : Int) from by omega] at this; exact this))] at q
      exact q
theorem m_isHereK {G : zG} {h sl : Nat} (hsl : 2 ≤ sl) {B : Int → Int} {n e : Nat} {o : Int} {M : zM} {Q : Int → zM → Prop} (hn : n ≤ 1600) (hr : zMe B n e M) (q : ∀ u, zX G (y_Md_isHere, h + 1, sl) u 61 [(0, (2, 125)), (1, (2, o)), (2, (0, (zru B n 1 (zfr B n e) : Nat)))] [] M Q) :
    ∀ (d i : Nat) {u : Nat × Nat × Nat × Nat}, n ≤ d + i → zfr B n e ≤ i → i ≤ zru B n 1 (zfr B n e) → zX G (y_Md_isHere, h + 1, sl) u 35 [(0, (2, 125)), (1, (2, o)), (2, (0, (i : Int)))] [] M Q
  | 0, i, u, hd, h1, h2 => by
    have e2 := zru_mid h1 h2
    rw [zru_0 (by omega)] at e2
    rw [← e2] at q
    refine B_Md_isHere_35 hsl ⟨fun g => q u, fun g => absurd (by rw [hr.1.1.1.1]; omega) g⟩
  | d + 1, i, u, hd, h1, h2 => by
    have e2 := zru_mid h1 h2
    refine B_Md_isHere_35 hsl ?_
    rw [hr.1.1.1.1]
    refine ⟨fun g => ?_, fun g => ⟨by omega, ?_⟩⟩
    · rw [zru_0 (by omega)] at e2
      rw [← e2] at q
      exact q u
    · rw [hr.1.1.2.1 _ (by omega) (by omega)]
      refine m_isLetter hsl (fun c => ⟨fun y => absurd y (by decide), fun _ => ⟨by unfold zI; omega, ?_⟩⟩) (fun c => ⟨fun _ => ?_, fun y => absurd rfl y⟩)
      · have e3 := zru_1 (B := B) (n := n) (e := i) (k := 1) ⟨by omega, c⟩
        have e4 := zru_le B n 1 (i + 1)
        have := m_isHereK (G := G) (h := h) (Q := Q) hsl hn hr q d (i + 1) (u := u) (by omega) (by omega) (by omega)
        rw [zcs] at this
        exact this
      · rw [zru_0 (fun y => c y.2)] at e2
        rw [← e2] at q
        exact q u
theorem m_isHere {G : zG} {h sl : Nat} (hsl : 2 ≤ sl) {B : Int → Int} {n e : Nat} {o : Int} {w : List Int} {M : zM} {Q : Int → zM → Prop} (hn : n ≤ 1600) (he : e ≤ n) (hx : zMd B n e M) (hw : zWo o w) (hw6 : w.length ≤ 6) (q : ∀ M', zSm zPwl M M' → zMe B n e M' → Q (if zwrd B n e w = true then 1 else 0) M') : zCt G (h + 1) sl 0 0 y_Md_isHere [(2, 125), (2, o)] M Q := by
  have hb := zto_b (B := B) he
  unfold zwrd at q
  simp only [decide_eq_true_eq] at q
  refine E_Md_isHere hsl ⟨fun g => absurd hx.1.2.2 g, fun _ => m_look hsl hn he hx (fun M2 hM2 h2 => ?_)⟩
  have q := q M2 hM2 h2
  refine m_isLetter hsl (fun c => ⟨fun y => absurd y (by decide), fun _ => ?_⟩) (fun c => ⟨fun _ => ?_, fun y => absurd rfl y⟩)
  · rw [zlk_k (Or.inl rfl)] at c
    have hg := h2.gl (Or.inl c)
    have hl := zrk_lt (B := B) (n := n) (e := e) (by omega)
    have h1 : zkdo (B (zfr B n e : Nat)) = 1 := by unfold zrk at c; rw [if_pos hl] at c; exact c
    have et : zto B n e = zru B n 1 (zfr B n e) := by
      unfold zto
      rw [if_neg (by omega), if_neg (by omega), c, zru_1 (e := zfr B n e) ⟨hl, h1⟩]
    refine ⟨fun g => ?_, fun g => ?_⟩
    · rw [hg] at g
      have k1 := zkd_rk g
      rw [h2.2]
      refine m_isHereK hsl hn h2 (fun u => B_Md_isHere_61 hsl ?_) n (zfr B n e) (by omega) (Nat.le_refl _) (zru_le _ _ _ _)
      rw [h2.2, ← et]
      refine ⟨by unfold zI; omega, hw.1, by rw [hw.2.1]; omega, fun g2 => ?_, fun g2 => ?_⟩
      · rw [hw.2.1] at g2
        refine m_isHereL hsl hn h2 hw (by omega) ?_ w.length 0 (by omega) (fun j hj => absurd hj (by omega))
        by_cases c2 : ∀ j, j < w.length → B ((zfr B n e + j : Nat) : Int) = w.getD j 0
        · rw [if_pos c2]
          rw [if_pos ⟨by omega, by omega, c2⟩] at q
          exact q
        · rw [if_neg c2]
          rw [if_neg (fun y => c2 y.2.2)] at q
          exact q
      · rw [hw.2.1] at g2
        rw [if_neg (fun y => g2 (by have := y.2.1; omega))] at q
        exact q
    · have k4 : zkd B n e = 4 := hg.1 (Classical.byContradiction g)
      rw [if_neg (fun y => by omega)] at q
      exact q
  · rw [zlk_k (Or.inl rfl)] at c
    rw [if_neg (fun y => c (by rw [← zkd_rk (by omega)]; exact y.1))] at q
    exact q
theorem m_takes {G : zG} {h sl : Nat} (hsl : 2 ≤ sl) {B : Int → Int} {n e : Nat} {o : Int} {w : List Int} {M : zM} {Q : Int → zM → Prop} (hn : n ≤ 1600) (he : e ≤ n) (hx : zMd B n e M) (hw : zWo o w) (hw6 : w.length ≤ 6) (q1 : zwrd B n e w = true → ∀ M', zSm zPmt M M' → zMd B n (zto B n e) M' → Q 1 M') (q0 : ¬ zwrd B n e w = true → ∀ M', zSm zPmt M M' → zMe B n e M' → Q 0 M') : zCt G (h + 2) sl 0 0 y_Md_takes [(2, 125), (2, o)] M Q := by
  refine E_Md_takes hsl (m_isHere hsl hn he hx hw hw6 (fun M2 hM2 h2 => ?_))
  by_cases c : zwrd B n e w = true
  · rw [if_pos c]
    have hk := zwrd_k c
    have hb := zto_b (B := B) he
    have ht : zto B n e = zfr B n e + w.length := by unfold zwrd at c; exact (of_decide_eq_true c).2.1
    refine ⟨fun _ => ⟨hw.1, by rw [hw.2.1]; omega, ?_⟩, fun y => absurd (by decide) y⟩
    rw [h2.2, hw.2.1]
    refine ⟨by unfold zI; omega, q1 c _ (((zPwl_mt hM2).wr ⟨rfl, by decide⟩).wr ⟨rfl, by decide⟩) ?_⟩
    exact zMd.tk (x := (zfr B n e : Nat) + (w.length : Nat)) h2.1.1 (Or.inl hk.2) (fun a k p => by rw [zwr_i, if_neg (by omega), zwr_i, if_neg (by omega)]) (by rw [zwr_k _ (by decide), zwr_s]) (by rw [zwr_s, zwr_s]) (by omega)
  · rw [if_neg c]
    exact ⟨fun y => absurd rfl y, fun _ => q0 c _ (zPwl_mt hM2) h2⟩
theorem m_fail0 {G : zG} {h sl : Nat} (hsl : 2 ≤ sl) {f p : Int} {M : zM} {Q : Int → zM → Prop} (h0 : M 125 5 = 0) (q : ∀ M', zSm zPmt M M' → zMF f p M' → Q 0 M') : zCt G h sl 0 0 y_Md_fail [(2, 125), (0, f), (0, p)] M Q :=
  E_Md_fail hsl ⟨fun _ => q _ (((zSm.refl _ M).wr ⟨rfl, by decide⟩).wr ⟨rfl, by decide⟩) ⟨by rw [zwr_k _ (by decide), zwr_s], zwr_s _ _ _ _⟩, fun g => absurd h0 g⟩
theorem m_asks {G : zG} {h sl : Nat} (hsl : 2 ≤ sl) {B : Int → Int} {n e : Nat} {o : Int} {w : List Int} {M : zM} {Q : Int → zM → Prop} (hn : n ≤ 1600) (he : e ≤ n) (hx : zMd B n e M) (hw : zWo o w) (hw6 : w.length ≤ 6) (q1 : zwrd B n e w = true → ∀ M', zSm zPmt M M' → zMd B n (zto B n e) M' → Q 0 M') (q0 : ¬ zwrd B n e w = true → ∀ M', zSm zPmt M M' → zMF 1 (zfr B n e : Nat) M' → Q 0 M') : zCt G (h + 3) sl 0 0 y_Md_asks [(2, 125), (2, o)] M Q := by
  refine E_Md_asks hsl ⟨fun g => absurd hx.1.2.2 g, fun _ => m_takes hsl hn he hx hw hw6 (fun c M2 hM2 h2 => ⟨fun _ => q1 c M2 hM2 h2, fun y => absurd (by decide) y⟩) (fun c M2 hM2 h2 => ⟨fun y => absurd rfl y, fun _ => ?_⟩)⟩
  rw [h2.2]
  exact m_fail0 hsl h2.1.1.2.2 (fun M3 hM3 h3 => q0 c M3 (hM2.trans hM3) h3)
theorem m_takesSign {G : zG} {h sl : Nat} (hsl : 2 ≤ sl) {B : Int → Int} {n e : Nat} {x : Int} {M : zM} {Q : Int → zM → Prop} (hn : n ≤ 1600) (he : e ≤ n) (hx : zMd B n e M) (hx3 : zkdo x = 3) (hx0 : 0 ≤ x) (q1 : zsg B n e x = true → ∀ M', zSm zPmt M M' → zMd B n (zto B n e) M' → M' 125 2 = (zfr B n e : Nat) + 1 → Q 1 M') (q0 : ¬ zsg B n e x = true → ∀ M', zSm zPmt M M' → zMe B n e M' → Q 0 M') : zCt G (h + 1) sl 0 0 y_Md_takesSign [(2, 125), (0, x)] M Q := by
  refine E_Md_takesSign hsl ⟨fun g => absurd hx.1.2.2 g, fun _ => m_look hsl hn he hx (fun M2 hM2 h2 => ?_)⟩
  have hf := zfr_n (B := B) he
  have key : (if zfr B n e < n then B (zfr B n e : Nat) else -1) = x ↔ zsg B n e x = true := by
    unfold zsg
    rw [decide_eq_true_eq]
    by_cases c : zfr B n e < n
    · rw [if_pos c]
      constructor
      · intro y
        refine ⟨?_, y⟩
        have h3 : zrk B n e = 3 := by unfold zrk; rw [if_pos c, y]; exact hx3
        unfold zkd
        rw [if_neg (by omega)]
        exact h3
      · exact fun y => y.2
    · rw [if_neg c]
      constructor
      · intro y; omega
      · intro y
        have : zrk B n e = 3 := by rw [← zkd_rk (by omega)]; exact y.1
        exact absurd (zrk_lt (B := B) (n := n) (e := e) (by omega)) c
  rw [key]
  refine ⟨fun c => ?_, fun c => q0 c _ (zPwl_mt hM2) h2⟩
  have hk := zsg_k c
  rw [h2.2]
  exact ⟨by unfold zI; omega, q1 c _ ((zPwl_mt hM2).wr ⟨rfl, by decide⟩) (zMd.sg h2 hk.2.1 rfl) (zwr_s _ _ _ _)⟩
theorem m_asksSign {G : zG} {h sl : Nat} (hsl : 2 ≤ sl) {B : Int → Int} {n e : Nat} {x : Int} {M : zM} {Q : Int → zM → Prop} (hn : n ≤ 1600) (he : e ≤ n) (hx : zMd B n e M) (hx3 : zkdo x = 3) (hx0 : 0 ≤ x) (q1 : zsg B n e x = true → ∀ M', zSm zPmt M M' → zMd B n (zto B n e) M' → Q 0 M') (q0 : ¬ zsg B n e x = true → ∀ M', zSm zPmt M M' → zMF 1 (zfr B n e : Nat) M' → Q 0 M') : zCt G (h + 2) sl 0 0 y_Md_asksSign [(2, 125), (0, x)] M Q := by
  refine E_Md_asksSign hsl ⟨fun g => absurd hx.1.2.2 g, fun _ => m_takesSign hsl hn he hx hx3 hx0 (fun c M2 hM2 h2 _ => ⟨fun _ => q1 c M2 hM2 h2, fun y => absurd (by decide) y⟩) (fun c M2 hM2 h2 => ⟨fun y => absurd rfl y, fun _ => ?_⟩)⟩
  rw [h2.2]
  exact m_fail0 hsl h2.1.1.2.2 (fun M3 hM3 h3 => q0 c M3 (hM2.trans hM3) h3)
