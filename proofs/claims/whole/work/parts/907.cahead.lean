/-! THE CLASS: what is ahead (promises 11 - 16). -/
def zlat (T : zTb) (L : Int → Int) (c n : Int) : Int := if (0 ≤ c ∧ c < T.1 8 0) ∧ (0 ≤ n ∧ n ≤ 200 ∧ L 0 + n ≤ 999) then zln T L n.toNat (1 + c) else -1000000000000000
theorem c_later {G : zG} {h sl : Nat} (hsl : 1 ≤ sl) {T : zTb} {L : Int → Int} {t c n : Int} {M : zM} {Q : Int → zM → Prop} (hP : zPu T L) (hC : zCk T L t M) (q : ∀ M', zSm (zPq t) M M' → zCk T L t M' → Q (zlat T L c n) M') : zCt G (h + 6) sl 0 0 y_Zt_later [(2, 1), (0, c), (0, n)] M Q := by
  have q0 := q M (zSm.refl _ _) hC
  unfold zlat at q q0
  refine E_Zt_later hsl (c_isColC hsl hC (fun a b => ⟨fun g => absurd g (by decide), fun _ => c_isAheadC hsl hP hC (fun a1 b1 d1 => ⟨fun _ => ?_, fun g => absurd (by decide) g⟩) (fun g => ⟨fun g2 => absurd rfl g2, fun _ => ?_⟩)⟩) (fun g => ⟨fun _ => ?_, fun g2 => absurd rfl g2⟩))
  · obtain ⟨k, rfl⟩ : ∃ k : Nat, n = k := ⟨n.toNat, by omega⟩
    refine c_reachA hsl hP hC (by omega) (fun M' m hM hC' hm hc => c_toldC hsl (Or.inr rfl) hP.1 hc hm a b ?_)
    have := q M' (zPR_q13 hM) hC'
    rw [if_pos ⟨⟨a, b⟩, a1, b1, d1⟩] at this
    exact this
  · rw [if_neg (by omega)] at q0; exact q0
  · rw [if_neg (by omega)] at q0; exact q0
/-- where the greatest stands first, of so many behind the first -/
def zbm (f : Nat → Int) : Nat → Nat
  | 0 => 0
  | k + 1 => if f (zbm f k) < f (k + 1) then k + 1 else zbm f k
theorem zbm_le (f : Nat → Int) : ∀ k, zbm f k ≤ k
  | 0 => Nat.le_refl 0
  | k + 1 => by
    have := zbm_le f k
    unfold zbm
    split <;> omega
def zbd1 (T : zTb) (L : Int → Int) (c : Int) (n : Nat) (w : Int) : Int :=
  if w = 0 then zln T L (zbm (fun k => zln T L k (1 + c)) n) (1 + c) else if w = 1 then (zbm (fun k => zln T L k (1 + c)) n : Nat) else if w = 2 then zln T L (zbm (fun k => - zln T L k (1 + c)) n) (1 + c) else (zbm (fun k => - zln T L k (1 + c)) n : Nat)
def zbnd (T : zTb) (L : Int → Int) (c n w : Int) : Int := if (0 ≤ c ∧ c < T.1 8 0) ∧ (0 ≤ n ∧ n ≤ 200 ∧ L 0 + n ≤ 999) ∧ (0 ≤ w ∧ w ≤ 3) then zbd1 T L c n.toNat w else -1000000000000000
theorem zln_v {T : zTb} {L : Int → Int} {k : Nat} {c : Int} (hP : zPu T L) (hk : k ≤ 1000) (c0 : 0 ≤ c) (cn : c < T.1 8 0) : -1000000 ≤ zln T L k (1 + c) ∧ zln T L k (1 + c) ≤ 1000000 := by
  have h9 := hP.2.2
  exact ((zln_ok hP.1 hP.2.1 k (by omega)).2.2.2 c c0 cn).in (hP.1.2.2.2.2.2.2.2 c c0 cn)
theorem c_boundsL {G : zG} {h sl : Nat} (hsl : 1 ≤ sl) {T : zTb} {L : Int → Int} {t c w sg : Int} {n m : Nat} {M : zM} {Q : Int → zM → Prop} (hP : zPu T L) (hc : zCo T L m M 13 t) (c0 : 0 ≤ c) (cn : c < T.1 8 0) (hm : n < m) (hn : n ≤ 200) (w0 : 0 ≤ w) (w3 : w ≤ 3) (hs : sg = 1 ∧ w < 2 ∨ sg = -1 ∧ 2 ≤ w)
    (q : Q (zbd1 T L c n w) M) : ∀ (d k : Nat) {u : Nat × Nat × Nat × Nat}, d + k = n → zX G (y_Zt_bounds, h + 1, sl) u 59 [(0, (2, 1)), (1, (0, c)), (2, (0, (n : Int))), (3, (0, w)), (4, (0, (if w < 2 then 1 else 0 : Int))), (5, (0, (zbm (fun k => sg * zln T L k (1 + c)) k : Nat))), (6, (0, (k : Int) + 1))] [] M Q
  | 0, k, u, e => by
    have : k = n := by omega
    subst this
    have hle := zbm_le (fun k => sg * zln T L k (1 + c)) k
    have hfe : (fun k => sg * zln T L k (1 + c)) = (if w < 2 then (fun k => zln T L k (1 + c)) else (fun k => - zln T L k (1 + c))) := by
      funext j
      split
      · rw [show sg = 1 from by omega]; simp
      · rw [show sg = -1 from by omega]; simp
    refine B_Zt_bounds_59 hsl ⟨fun _ => ⟨fun g => ?_, fun g => c_toldC hsl (Or.inr rfl) hP.1 hc (by omega) c0 cn ?_⟩, fun g => absurd (by omega) g⟩
    · rw [hfe]
      unfold zbd1 at q
      have hw : w = 1 ∨ w = 3 := by
        have : Int.tmod w 2 = w % 2 := Int.tmod_eq_emod_of_nonneg w0
        omega
      rcases hw with rfl | rfl
      · exact q
      · exact q
    · rw [hfe]
      unfold zbd1 at q
      have hw : w = 0 ∨ w = 2 := by
        have : Int.tmod w 2 = w % 2 := Int.tmod_eq_emod_of_nonneg w0
        omega
      rcases hw with rfl | rfl
      · exact q
      · exact q
  | d + 1, k, u, e => by
    have hle := zbm_le (fun k => sg * zln T L k (1 + c)) k
    have hv1 := zln_v (k := k + 1) hP (by omega) c0 cn
    have hv2 := zln_v (k := zbm (fun k => sg * zln T L k (1 + c)) k) hP (by omega) c0 cn
    have ih := c_boundsL (G := G) (h := h) (Q := Q) hsl hP hc c0 cn hm hn w0 w3 hs q d (k + 1) (u := u) (by omega)
    have go : ∀ r, r = zbm (fun k => sg * zln T L k (1 + c)) (k + 1) → zI ((k : Int) + 1 + 1) ∧ zX G (y_Zt_bounds, h + 1, sl) u 59 [(0, (2, 1)), (1, (0, c)), (2, (0, (n : Int))), (3, (0, w)), (4, (0, (if w < 2 then 1 else 0 : Int))), (5, (0, (r : Nat))), (6, (0, (k : Int) + 1 + 1))] [] M Q := fun r er => ⟨by unfold zI; omega, by rw [er]; rw [zcs] at ih; exact ih⟩
    refine B_Zt_bounds_59 hsl ⟨fun g => absurd g (by omega), fun _ => ?_⟩
    have t1 : ∀ Q' : Int → zM → Prop, Q' (zln T L (k + 1) (1 + c)) M → zCt G h sl 0 0 y_Course_told [(2, 13), (0, (k : Int) + 1), (0, c)] M Q' := fun Q' qq => by
      have : zCt G h sl 0 0 y_Course_told [(2, 13), (0, ((k + 1 : Nat) : Int)), (0, c)] M Q' := c_toldC hsl (Or.inr rfl) hP.1 hc (by omega) c0 cn qq
      rw [zcs] at this
      exact this
    refine t1 _ (c_toldC hsl (Or.inr rfl) hP.1 hc (by omega) c0 cn ⟨by unfold zI; omega, fun g => ⟨fun g2 => go _ ?_, fun g2 => go (k + 1) ?_⟩, fun g => ⟨fun g2 => go _ ?_, fun g2 => go (k + 1) ?_⟩⟩)
    · have hw : ¬ w < 2 := by intro x; rw [if_pos x] at g; omega
      have hs1 : sg = -1 := by omega
      show _ = if _ then _ else _
      rw [if_neg]
      subst hs1
      simp only
      omega
    · have hw : ¬ w < 2 := by intro x; rw [if_pos x] at g; omega
      have hs1 : sg = -1 := by omega
      show _ = if _ then _ else _
      rw [if_pos]
      subst hs1
      simp only
      omega
    · have hw : w < 2 := by apply Classical.byContradiction; intro x; rw [if_neg x] at g; omega
      have hs1 : sg = 1 := by omega
      show _ = if _ then _ else _
      rw [if_neg]
      subst hs1
      simp only
      omega
    · have hw : w < 2 := by apply Classical.byContradiction; intro x; rw [if_neg x] at g; omega
      have hs1 : sg = 1 := by omega
      show _ = if _ then _ else _
      rw [if_pos]
      subst hs1
      simp only
      omega
theorem c_bounds {G : zG} {h sl : Nat} (hsl : 1 ≤ sl) {T : zTb} {L : Int → Int} {t c n w : Int} {M : zM} {Q : Int → zM → Prop} (hP : zPu T L) (hC : zCk T L t M) (q : ∀ M', zSm (zPq t) M M' → zCk T L t M' → Q (zbnd T L c n w) M') : zCt G (h + 6) sl 0 0 y_Zt_bounds [(2, 1), (0, c), (0, n), (0, w)] M Q := by
  have q0 := q M (zSm.refl _ _) hC
  unfold zbnd at q q0
  refine E_Zt_bounds hsl (c_isColC hsl hC (fun a b => ⟨fun g => absurd g (by decide), fun _ => c_isAheadC hsl hP hC (fun a1 b1 d1 => ⟨fun g => absurd g (by decide), fun _ => ⟨fun g => ?_, fun g => ⟨fun g2 => ?_, fun g2 => ?_⟩⟩⟩) (fun g => ⟨fun _ => ?_, fun g2 => absurd rfl g2⟩)⟩) (fun g => ⟨fun _ => ?_, fun g2 => absurd rfl g2⟩))
  · rw [if_neg (by omega)] at q0; exact q0
  · obtain ⟨k, rfl⟩ : ∃ k : Nat, n = k := ⟨n.toNat, by omega⟩
    refine c_reachA hsl hP hC (by omega) (fun M' m hM hC' hm hc => ?_)
    have qq := q M' (zPR_q13 hM) hC'
    rw [if_pos ⟨⟨a, b⟩, ⟨a1, b1, d1⟩, by omega, g2⟩, show ((k : Int)).toNat = k from by omega] at qq
    refine ⟨fun g3 => ?_, fun g3 => ?_⟩
    · have := c_boundsL (G := G) (h := h + 5) (sg := -1) (w := w) hsl hP hc a b hm (by omega) (by omega) g2 (by omega) qq k 0 (u := (0, 0, 0, 0)) (by omega)
      rw [if_neg (by omega)] at this
      exact this
    · have := c_boundsL (G := G) (h := h + 5) (sg := 1) (w := w) hsl hP hc a b hm (by omega) (by omega) g2 (by omega) qq k 0 (u := (0, 0, 0, 0)) (by omega)
      rw [if_pos (by omega)] at this
      exact this
  · rw [if_neg (by omega)] at q0; exact q0
  · rw [if_neg (by omega)] at q0; exact q0
  · rw [if_neg (by omega)] at q0; exact q0
/-- the first of so many from k on -/
def zfst (p : Nat → Bool) : Nat → Nat → Int
  | 0, _ => -1
  | d + 1, k => if p k = true then (k : Int) else zfst p d (k + 1)
def zwhn (T : zTb) (L : Int → Int) (c v : Int) : Int := if 0 ≤ c ∧ c < T.1 8 0 then zfst (fun k => decide (zln T L k (1 + c) = v)) (zam L) 0 else -1
theorem zam_le {T : zTb} {L : Int → Int} (hP : zPu T L) : 1 ≤ zam L ∧ zam L ≤ 201 ∧ L 0 + zam L ≤ 1000 := by
  have h9 := hP.2.2
  have h0 := hP.2.1.1
  unfold zam
  omega
theorem c_whenL {G : zG} {h sl : Nat} (hsl : 1 ≤ sl) {T : zTb} {L : Int → Int} {t c v : Int} {m : Nat} {M : zM} {Q : Int → zM → Prop} (hP : zPu T L) (hc : zCo T L m M 13 t) (c0 : 0 ≤ c) (cn : c < T.1 8 0) (hm : zam L ≤ m) :
    ∀ (d k : Nat) {u : Nat × Nat × Nat × Nat}, d + k = zam L → Q (zfst (fun k => decide (zln T L k (1 + c) = v)) d k) M → zX G (y_Zt_when, h + 1, sl) u 26 [(0, (2, 1)), (1, (0, c)), (2, (0, v)), (3, (0, (zam L : Int) - 1)), (4, (0, (k : Int)))] [] M Q
  | 0, k, u, e, q => B_Zt_when_26 hsl ⟨fun _ => q, fun g => absurd (by omega) g⟩
  | d + 1, k, u, e, q => by
    have hz := zam_le hP
    unfold zfst at q
    refine B_Zt_when_26 hsl ⟨fun g => absurd g (by omega), fun _ => c_toldC hsl (Or.inr rfl) hP.1 hc (by omega) c0 cn ⟨fun g => ⟨by unfold zI; omega, ?_⟩, fun g => ?_⟩⟩
    · rw [if_neg (by simpa using g)] at q
      have := c_whenL (G := G) (h := h) (Q := Q) (v := v) hsl hP hc c0 cn hm d (k + 1) (u := u) (by omega) q
      rw [zcs] at this
      exact this
    · rw [if_pos (by simp; omega)] at q
      exact q
theorem c_when {G : zG} {h sl : Nat} (hsl : 1 ≤ sl) {T : zTb} {L : Int → Int} {t c v : Int} {M : zM} {Q : Int → zM → Prop} (hP : zPu T L) (hC : zCk T L t M) (q : ∀ M', zSm (zPq t) M M' → zCk T L t M' → Q (zwhn T L c v) M') : zCt G (h + 6) sl 0 0 y_Zt_when [(2, 1), (0, c), (0, v)] M Q := by
  have q0 := q M (zSm.refl _ _) hC
  have hz := zam_le hP
  unfold zwhn at q q0
  refine E_Zt_when hsl (c_isColC hsl hC (fun a b => ⟨fun _ => c_mostAhead hsl hP hC ?_, fun g => absurd (by decide) g⟩) (fun g => ⟨fun g2 => absurd rfl g2, fun _ => ?_⟩))
  · have : zCt G (h + 5) sl 0 0 y_Course_reach [(2, 13), (0, ((zam L - 1 : Nat) : Int))] M (fun r6 M7 => zX G (y_Zt_when, h + 5 + 1, sl) (0, 0, 0, 0) 26 [(0, (2, 1)), (1, (0, c)), (2, (0, v)), (3, (0, (zam L : Int) - 1)), (4, (0, 0))] [] M7 Q) := c_reachA hsl hP hC (by omega) (fun M' m hM hC' hm hc => by
      have qq := q M' (zPR_q13 hM) hC'
      rw [if_pos ⟨a, b⟩] at qq
      exact c_whenL (h := h + 5) hsl hP hc a b (by omega) (zam L) 0 (by omega) qq)
    rw [show ((zam L - 1 : Nat) : Int) = (zam L : Int) - 1 from by omega] at this
    exact this
  · rw [if_neg g] at q0; exact q0
def zmet (T : zTb) (L : Int → Int) (c e : Int) : Int := if (0 ≤ c ∧ c < T.1 8 0) ∧ (0 ≤ e ∧ e < T.1 8 0) ∧ c ≠ e then zfst (fun k => decide (zln T L k (1 + c) = zln T L k (1 + e))) (zam L) 0 else -1
theorem c_meetL {G : zG} {h sl : Nat} (hsl : 1 ≤ sl) {T : zTb} {L : Int → Int} {t c f : Int} {m : Nat} {M : zM} {Q : Int → zM → Prop} (hP : zPu T L) (hc : zCo T L m M 13 t) (c0 : 0 ≤ c) (cn : c < T.1 8 0) (f0 : 0 ≤ f) (fn : f < T.1 8 0) (hm : zam L ≤ m) :
    ∀ (d k : Nat) {u : Nat × Nat × Nat × Nat}, d + k = zam L → Q (zfst (fun k => decide (zln T L k (1 + c) = zln T L k (1 + f))) d k) M → zX G (y_Zt_meet, h + 1, sl) u 39 [(0, (2, 1)), (1, (0, c)), (2, (0, f)), (3, (0, (zam L : Int) - 1)), (4, (0, (k : Int)))] [] M Q
  | 0, k, u, e, q => B_Zt_meet_39 hsl ⟨fun _ => q, fun g => absurd (by omega) g⟩
  | d + 1, k, u, e, q => by
    have hz := zam_le hP
    unfold zfst at q
    refine B_Zt_meet_39 hsl ⟨fun g => absurd g (by omega), fun _ => c_toldC hsl (Or.inr rfl) hP.1 hc (by omega) c0 cn (c_toldC hsl (Or.inr rfl) hP.1 hc (by omega) f0 fn ⟨fun g => ⟨by unfold zI; omega, ?_⟩, fun g => ?_⟩)⟩
    · rw [if_neg (by simpa using g)] at q
      have := c_meetL (G := G) (h := h) (Q := Q) hsl hP hc c0 cn f0 fn hm d (k + 1) (u := u) (by omega) q
      rw [zcs] at this
      exact this
    · rw [if_pos (by simp; omega)] at q
      exact q
theorem c_meet {G : zG} {h sl : Nat} (hsl : 1 ≤ sl) {T : zTb} {L : Int → Int} {t c f : Int} {M : zM} {Q : Int → zM → Prop} (hP : zPu T L) (hC : zCk T L t M) (q : ∀ M', zSm (zPq t) M M' → zCk T L t M' → Q (zmet T L c f) M') : zCt G (h + 6) sl 0 0 y_Zt_meet [(2, 1), (0, c), (0, f)] M Q := by
  have q0 := q M (zSm.refl _ _) hC
  have hz := zam_le hP
  unfold zmet at q q0
  refine E_Zt_meet hsl (c_isColC hsl hC (fun a b => ⟨fun g => absurd g (by decide), fun _ => c_isColC hsl hC (fun a2 b2 => ⟨fun g => absurd g (by decide), fun _ => ⟨fun g => c_mostAhead hsl hP hC ?_, fun g => ?_⟩⟩) (fun g => ⟨fun _ => ?_, fun g2 => absurd rfl g2⟩)⟩) (fun g => ⟨fun _ => ?_, fun g2 => absurd rfl g2⟩))
  · have : zCt G (h + 5) sl 0 0 y_Course_reach [(2, 13), (0, ((zam L - 1 : Nat) : Int))] M (fun r6 M7 => zX G (y_Zt_meet, h + 5 + 1, sl) (0, 0, 0, 0) 39 [(0, (2, 1)), (1, (0, c)), (2, (0, f)), (3, (0, (zam L : Int) - 1)), (4, (0, 0))] [] M7 Q) := c_reachA hsl hP hC (by omega) (fun M' m hM hC' hm hc => by
      have qq := q M' (zPR_q13 hM) hC'
      rw [if_pos ⟨⟨a, b⟩, ⟨a2, b2⟩, g⟩] at qq
      exact c_meetL (h := h + 5) hsl hP hc a b a2 b2 (by omega) (zam L) 0 (by omega) qq)
    rw [show ((zam L - 1 : Nat) : Int) = (zam L : Int) - 1 from by omega] at this
    exact this
  · rw [if_neg (by omega)] at q0; exact q0
  · rw [if_neg (by omega)] at q0; exact q0
  · rw [if_neg (by omega)] at q0; exact q0
