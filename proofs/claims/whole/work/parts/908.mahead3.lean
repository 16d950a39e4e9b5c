/-! THE MODEL: what is ahead (promises 11 - 16). -/
theorem m_later {G : zG} {h sl : Nat} (hsl : 2 ≤ sl) {T : zTb} {L : Int → Int} {c n : Int} {M : zM} {Q : Int → zM → Prop} (hP : zPu T L) (hC : zMk T L M) (q : ∀ M', zSm zPB M M' → zMk T L M' → Q (zlat T L c n) M') : zCt G (h + 7) sl 0 0 y_Md_later [(2, 125), (0, c), (0, n)] M Q := by
  have q0 := q M (zSm.refl _ _) hC
  have h0 := hP.2.1.1
  have h8 := hP.1.2.1
  unfold zlat at q q0
  refine E_Md_later hsl (c_isColM hsl hP.1 hC.1 (fun a b => ⟨fun g => absurd g (by decide), fun _ => c_isAheadM hsl hC.2.1.1 h0 hP.2.2 (by omega) (fun a1 b1 d1 => ⟨fun _ => ?_, fun g => absurd (by decide) g⟩) (fun g => ⟨fun g2 => absurd rfl g2, fun _ => ?_⟩)⟩) (fun g => ⟨fun _ => ?_, fun g2 => absurd rfl g2⟩))
  · obtain ⟨k, rfl⟩ : ∃ k : Nat, n = k := ⟨n.toNat, by omega⟩
    refine c_laysAhead hsl hP.1 hP.2.1 hP.2.2 hC.1 hC.2.1 (fun M' hM h61 ha => ⟨by unfold zI; omega, by unfold zI; omega, by omega, ?_⟩)
    have := q M' hM (hC.frB hP.1 hM)
    rw [if_pos ⟨⟨a, b⟩, a1, b1, d1⟩] at this
    rw [(ha k (by unfold zam; omega)).1 c a b]
    exact this
  · rw [if_neg (by omega)] at q0; exact q0
  · rw [if_neg (by omega)] at q0; exact q0
theorem m_boundsL {G : zG} {h sl : Nat} (hsl : 2 ≤ sl) {T : zTb} {L : Int → Int} {c w : Int} {n : Nat} {M : zM} {Q : Int → zM → Prop} (h8 : T.1 8 0 ≤ 8) (ha : ∀ k : Nat, k ≤ n → M 168 (8 * (k : Int) + c) = zln T L k (1 + c)) (c0 : 0 ≤ c) (cn : c < T.1 8 0) (hn : n ≤ 200) (w0 : 0 ≤ w) (w3 : w ≤ 3)
    (q : Q (zbd1 T L c n w) M) : ∀ (d k : Nat) {u : Nat × Nat × Nat × Nat}, d + k = n → zX G (y_Md_bounds, h + 1, sl) u 51 [(0, (2, 125)), (1, (0, c)), (2, (0, (n : Int))), (3, (0, w)), (4, (0, (zbm (fun k => - zln T L k (1 + c)) k : Nat))), (5, (0, (zbm (fun k => zln T L k (1 + c)) k : Nat))), (6, (0, (k : Int) + 1))] [] M Q
  | 0, k, u, e => by
    have : k = n := by omega
    subst this
    have hle := zbm_le (fun k => zln T L k (1 + c)) k
    have hle2 := zbm_le (fun k => - zln T L k (1 + c)) k
    unfold zbd1 at q
    refine B_Md_bounds_51 hsl ⟨fun _ => ⟨fun g => ⟨fun g2 => ⟨fun g3 => ?_, fun g3 => ⟨by unfold zI; omega, by unfold zI; omega, by omega, ?_⟩⟩, fun g2 => ?_⟩, fun g => ⟨by unfold zI; omega, by unfold zI; omega, by omega, ?_⟩⟩, fun g => absurd (by omega) g⟩
    · rw [if_neg g, if_neg g2, if_neg g3] at q; exact q
    · rw [if_neg g, if_neg g2, if_pos (by omega)] at q
      rw [ha _ hle2]; exact q
    · rw [if_neg g, if_pos (by omega)] at q; exact q
    · rw [if_pos (by omega)] at q
      rw [ha _ hle]; exact q
  | d + 1, k, u, e => by
    have hle := zbm_le (fun k => zln T L k (1 + c)) k
    have hle2 := zbm_le (fun k => - zln T L k (1 + c)) k
    have ih := m_boundsL (G := G) (h := h) (Q := Q) hsl h8 ha c0 cn hn w0 w3 q d (k + 1) (u := u) (by omega)
    have hk1 : M 168 (8 * ((k : Int) + 1) + c) = zln T L (k + 1) (1 + c) := by rw [← zcs]; exact ha (k + 1) (by omega)
    have go : ∀ r, r = zbm (fun k => zln T L k (1 + c)) (k + 1) → zX G (y_Md_bounds, h + 1, sl) u 88 [(0, (2, 125)), (1, (0, c)), (2, (0, (n : Int))), (3, (0, w)), (4, (0, (zbm (fun k => - zln T L k (1 + c)) k : Nat))), (5, (0, (r : Nat))), (6, (0, (k : Int) + 1))] [] M Q := fun r er => by
      have go2 : ∀ r2, r2 = zbm (fun k => - zln T L k (1 + c)) (k + 1) → zI ((k : Int) + 1 + 1) ∧ zX G (y_Md_bounds, h + 1, sl) u 51 [(0, (2, 125)), (1, (0, c)), (2, (0, (n : Int))), (3, (0, w)), (4, (0, (r2 : Nat))), (5, (0, (r : Nat))), (6, (0, (k : Int) + 1 + 1))] [] M Q := fun r2 er2 => ⟨by unfold zI; omega, by rw [er, er2]; rw [zcs] at ih; exact ih⟩
      refine B_Md_bounds_88 hsl ⟨by unfold zI; omega, by unfold zI; omega, by omega, by unfold zI; omega, by unfold zI; omega, by omega, ?_⟩
      rw [hk1, ha _ (by omega)]
      refine ⟨fun g => go2 _ ?_, fun g => go2 (k + 1) ?_⟩
      · show _ = if _ then _ else _
        rw [if_neg (by simp only; omega)]
      · show _ = if _ then _ else _
        rw [if_pos (by simp only; omega)]
    refine B_Md_bounds_51 hsl ⟨fun g => absurd g (by omega), fun _ => ⟨by unfold zI; omega, by unfold zI; omega, by omega, by unfold zI; omega, by unfold zI; omega, by omega, ?_⟩⟩
    rw [hk1, ha _ (by omega)]
    refine ⟨fun g => go _ ?_, fun g => go (k + 1) ?_⟩
    · show _ = if _ then _ else _
      rw [if_neg (by simp only; omega)]
    · show _ = if _ then _ else _
      rw [if_pos (by simp only; omega)]
theorem m_bounds {G : zG} {h sl : Nat} (hsl : 2 ≤ sl) {T : zTb} {L : Int → Int} {c n w : Int} {M : zM} {Q : Int → zM → Prop} (hP : zPu T L) (hC : zMk T L M) (q : ∀ M', zSm zPB M M' → zMk T L M' → Q (zbnd T L c n w) M') : zCt G (h + 7) sl 0 0 y_Md_bounds [(2, 125), (0, c), (0, n), (0, w)] M Q := by
  have q0 := q M (zSm.refl _ _) hC
  have h0 := hP.2.1.1
  have h8 := hP.1.2.1
  unfold zbnd at q q0
  refine E_Md_bounds hsl (c_isColM hsl hP.1 hC.1 (fun a b => ⟨fun g => absurd g (by decide), fun _ => c_isAheadM hsl hC.2.1.1 h0 hP.2.2 (by omega) (fun a1 b1 d1 => ⟨fun g => absurd g (by decide), fun _ => c_isIn hsl (fun a2 b2 => ⟨fun _ => ?_, fun g => absurd (by decide) g⟩) (fun g => ⟨fun g2 => absurd rfl g2, fun _ => ?_⟩)⟩) (fun g => ⟨fun _ => ?_, fun g2 => absurd rfl g2⟩)⟩) (fun g => ⟨fun _ => ?_, fun g2 => absurd rfl g2⟩))
  · obtain ⟨k, rfl⟩ : ∃ k : Nat, n = k := ⟨n.toNat, by omega⟩
    refine c_laysAhead hsl hP.1 hP.2.1 hP.2.2 hC.1 hC.2.1 (fun M' hM h61 ha => ?_)
    have qq := q M' hM (hC.frB hP.1 hM)
    rw [if_pos ⟨⟨a, b⟩, ⟨a1, b1, d1⟩, a2, b2⟩, show ((k : Int)).toNat = k from by omega] at qq
    exact m_boundsL hsl h8 (fun j hj => (ha j (by unfold zam; omega)).1 c a b) a b (by omega) a2 b2 qq k 0 (by omega)
  · rw [if_neg (by omega)] at q0; exact q0
  · rw [if_neg (by omega)] at q0; exact q0
  · rw [if_neg (by omega)] at q0; exact q0
theorem m_whenL {G : zG} {h sl : Nat} (hsl : 2 ≤ sl) {T : zTb} {L : Int → Int} {c v : Int} {M : zM} {Q : Int → zM → Prop} (hP : zPu T L) (h61 : M 125 61 = zam L) (ha : zAhd T L (zam L) M) (c0 : 0 ≤ c) (cn : c < T.1 8 0) :
    ∀ (d k : Nat) {u : Nat × Nat × Nat × Nat}, d + k = zam L → Q (zfst (fun k => decide (zln T L k (1 + c) = v)) d k) M → zX G (y_Md_when, h + 1, sl) u 17 [(0, (2, 125)), (1, (0, c)), (2, (0, v)), (3, (0, (k : Int)))] [] M Q
  | 0, k, u, e, q => by
    refine B_Md_when_17 hsl ⟨fun _ => q, fun g => absurd ?_ g⟩
    rw [h61]; omega
  | d + 1, k, u, e, q => by
    have hz := zam_le hP
    have h8 := hP.1.2.1
    unfold zfst at q
    refine B_Md_when_17 hsl ⟨fun g => absurd g (by rw [h61]; omega), fun _ => ⟨by unfold zI; omega, by unfold zI; omega, by omega, ?_⟩⟩
    rw [(ha k (by omega)).1 c c0 cn]
    refine ⟨fun g => ⟨by unfold zI; omega, ?_⟩, fun g => ?_⟩
    · rw [if_neg (by simpa using g)] at q
      have := m_whenL (G := G) (h := h) (Q := Q) (v := v) hsl hP h61 ha c0 cn d (k + 1) (u := u) (by omega) q
      rw [zcs] at this
      exact this
    · rw [if_pos (by simp; omega)] at q
      exact q
theorem m_when {G : zG} {h sl : Nat} (hsl : 2 ≤ sl) {T : zTb} {L : Int → Int} {c v : Int} {M : zM} {Q : Int → zM → Prop} (hP : zPu T L) (hC : zMk T L M) (q : ∀ M', zSm zPB M M' → zMk T L M' → Q (zwhn T L c v) M') : zCt G (h + 7) sl 0 0 y_Md_when [(2, 125), (0, c), (0, v)] M Q := by
  have q0 := q M (zSm.refl _ _) hC
  unfold zwhn at q q0
  refine E_Md_when hsl (c_isColM hsl hP.1 hC.1 (fun a b => ⟨fun _ => c_laysAhead hsl hP.1 hP.2.1 hP.2.2 hC.1 hC.2.1 (fun M' hM h61 ha => ?_), fun g => absurd (by decide) g⟩) (fun g => ⟨fun g2 => absurd rfl g2, fun _ => ?_⟩))
  · have qq := q M' hM (hC.frB hP.1 hM)
    rw [if_pos ⟨a, b⟩] at qq
    exact m_whenL hsl hP h61 ha a b (zam L) 0 (by omega) qq
  · rw [if_neg g] at q0; exact q0
theorem m_meetL {G : zG} {h sl : Nat} (hsl : 2 ≤ sl) {T : zTb} {L : Int → Int} {c f : Int} {M : zM} {Q : Int → zM → Prop} (hP : zPu T L) (h61 : M 125 61 = zam L) (ha : zAhd T L (zam L) M) (c0 : 0 ≤ c) (cn : c < T.1 8 0) (f0 : 0 ≤ f) (fn : f < T.1 8 0) :
    ∀ (d k : Nat) {u : Nat × Nat × Nat × Nat}, d + k = zam L → Q (zfst (fun k => decide (zln T L k (1 + c) = zln T L k (1 + f))) d k) M → zX G (y_Md_meet, h + 1, sl) u 31 [(0, (2, 125)), (1, (0, c)), (2, (0, f)), (3, (0, (k : Int)))] [] M Q
  | 0, k, u, e, q => by
    refine B_Md_meet_31 hsl ⟨fun _ => q, fun g => absurd ?_ g⟩
    rw [h61]; omega
  | d + 1, k, u, e, q => by
    have hz := zam_le hP
    have h8 := hP.1.2.1
    unfold zfst at q
    refine B_Md_meet_31 hsl ⟨fun g => absurd g (by rw [h61]; omega), fun _ => ⟨by unfold zI; omega, by unfold zI; omega, by omega, by unfold zI; omega, by omega, ?_⟩⟩
    rw [(ha k (by omega)).1 c c0 cn, (ha k (by omega)).1 f f0 fn]
    refine ⟨fun g => ⟨by unfold zI; omega, ?_⟩, fun g => ?_⟩
    · rw [if_neg (by simpa using g)] at q
      have := m_meetL (G := G) (h := h) (Q := Q) hsl hP h61 ha c0 cn f0 fn d (k + 1) (u := u) (by omega) q
      rw [zcs] at this
      exact this
    · rw [if_pos (by simp; omega)] at q
      exact q
theorem m_meet {G : zG} {h sl : Nat} (hsl : 2 ≤ sl) {T : zTb} {L : Int → Int} {c f : Int} {M : zM} {Q : Int → zM → Prop} (hP : zPu T L) (hC : zMk T L M) (q : ∀ M', zSm zPB M M' → zMk T L M' → Q (zmet T L c f) M') : zCt G (h + 7) sl 0 0 y_Md_meet [(2, 125), (0, c), (0, f)] M Q := by
  have q0 := q M (zSm.refl _ _) hC
  unfold zmet at q q0
  refine E_Md_meet hsl (c_isColM hsl hP.1 hC.1 (fun a b => ⟨fun g => absurd g (by decide), fun _ => c_isColM hsl hP.1 hC.1 (fun a2 b2 => ⟨fun g => absurd g (by decide), fun _ => ⟨fun g => c_laysAhead hsl hP.1 hP.2.1 hP.2.2 hC.1 hC.2.1 (fun M' hM h61 ha => ?_), fun g => ?_⟩⟩) (fun g => ⟨fun _ => ?_, fun g2 => absurd rfl g2⟩)⟩) (fun g => ⟨fun _ => ?_, fun g2 => absurd rfl g2⟩))
  · have qq := q M' hM (hC.frB hP.1 hM)
    rw [if_pos ⟨⟨a, b⟩, ⟨a2, b2⟩, g⟩] at qq
    exact m_meetL hsl hP h61 ha a b a2 b2 (zam L) 0 (by omega) qq
  · rw [if_neg (by omega)] at q0; exact q0
  · rw [if_neg (by omega)] at q0; exact q0
  · rw [if_neg (by omega)] at q0; exact q0
/-- marked ones, the first, the row at hand, the longest row, of so many lines -/
def zmkr (p : Nat → Int) : Nat → Int × Int × Int × Int
  | 0 => (0, 0, 0, 0)
  | k + 1 => if p (k + 1) = 1 then ((zmkr p k).1 + 1, (if (zmkr p k).1 = 0 then (k : Int) + 1 else (zmkr p k).2.1), 0, (zmkr p k).2.2.2)
    else ((zmkr p k).1, (zmkr p k).2.1, (zmkr p k).2.2.1 + 1, if (zmkr p k).2.2.1 + 1 ≤ (zmkr p k).2.2.2 then (zmkr p k).2.2.2 else (zmkr p k).2.2.1 + 1)
theorem zmkr_in (p : Nat → Int) : ∀ k : Nat, (0 ≤ (zmkr p k).1 ∧ (zmkr p k).1 ≤ k) ∧ (0 ≤ (zmkr p k).2.1 ∧ (zmkr p k).2.1 ≤ k) ∧ (0 ≤ (zmkr p k).2.2.1 ∧ (zmkr p k).2.2.1 ≤ k) ∧ (0 ≤ (zmkr p k).2.2.2 ∧ (zmkr p k).2.2.2 ≤ k)
  | 0 => by simp [zmkr]
  | k + 1 => by
    have ih := zmkr_in p k
    unfold zmkr
    split
    · refine ⟨by simp only; omega, ?_, by simp only; omega, by simp only; omega⟩
      simp only
      split <;> omega
    · refine ⟨by simp only; omega, by simp only; omega, by simp only; omega, ?_⟩
      simp only
      split <;> omega
def zmrs (T : zTb) (L : Int → Int) (n w : Int) : Int := if (1 ≤ n ∧ n ≤ 200 ∧ L 0 + n ≤ 999) ∧ (0 ≤ w ∧ w ≤ 2) then (if w = 0 then (zmkr (fun k => zmk T (zln T L k)) n.toNat).1 else if w = 1 then (zmkr (fun k => zmk T (zln T L k)) n.toNat).2.1 else (zmkr (fun k => zmk T (zln T L k)) n.toNat).2.2.2) else -1
theorem zmkr_1 {p : Nat → Int} {k : Nat} (h : p (k + 1) = 1) : zmkr p (k + 1) = ((zmkr p k).1 + 1, (if (zmkr p k).1 = 0 then (k : Int) + 1 else (zmkr p k).2.1), 0, (zmkr p k).2.2.2) := by
  show (if _ then _ else _) = _
  rw [if_pos h]
theorem zmkr_0 {p : Nat → Int} {k : Nat} (h : ¬ p (k + 1) = 1) : zmkr p (k + 1) = ((zmkr p k).1, (zmkr p k).2.1, (zmkr p k).2.2.1 + 1, if (zmkr p k).2.2.1 + 1 ≤ (zmkr p k).2.2.2 then (zmkr p k).2.2.2 else (zmkr p k).2.2.1 + 1) := by
  show (if _ then _ else _) = _
  rw [if_neg h]
theorem m_marksL {G : zG} {h sl : Nat} (hsl : 2 ≤ sl) {T : zTb} {L : Int → Int} {w : Int} {n : Nat} {M : zM} {Q : Int → zM → Prop} (ha : zAhd T L (zam L) M) (hn : n < zam L) (hn2 : n ≤ 200) (w0 : 0 ≤ w) (w2 : w ≤ 2)
    (q : Q (if w = 0 then (zmkr (fun k => zmk T (zln T L k)) n).1 else if w = 1 then (zmkr (fun k => zmk T (zln T L k)) n).2.1 else (zmkr (fun k => zmk T (zln T L k)) n).2.2.2) M) :
    ∀ (d k : Nat) (x : Int × Int × Int × Int) {u : Nat × Nat × Nat × Nat}, d + k = n → x = zmkr (fun k => zmk T (zln T L k)) k → zX G (y_Md_marks, h + 1, sl) u 45 [(0, (2, 125)), (1, (0, (n : Int))), (2, (0, w)), (3, (0, x.1)), (4, (0, x.2.1)), (5, (0, x.2.2.1)), (6, (0, x.2.2.2)), (7, (0, (k : Int) + 1))] [] M Q
  | 0, k, x, u, e, ex => by
    have : k = n := by omega
    subst this
    rw [← ex] at q
    refine B_Md_marks_45 hsl ⟨fun _ => ⟨fun g => ⟨fun g2 => ?_, fun g2 => ?_⟩, fun g => ?_⟩, fun g => absurd (by omega) g⟩
    · rw [if_neg g, if_neg g2] at q; exact q
    · rw [if_neg g, if_pos (by omega)] at q; exact q
    · rw [if_pos (by omega)] at q; exact q
  | d + 1, k, x, u, e, ex => by
    have hb := zmkr_in (fun k => zmk T (zln T L k)) k
    rw [← ex] at hb
    have hm : M 169 ((k : Int) + 1) = zmk T (zln T L (k + 1)) := by rw [← zcs]; exact (ha (k + 1) (by omega)).2
    have go := fun x' (e' : x' = zmkr (fun k => zmk T (zln T L k)) (k + 1)) => m_marksL (G := G) (h := h) (Q := Q) hsl ha hn hn2 w0 w2 q d (k + 1) x' (u := u) (by omega) e'
    rw [zcs] at go
    refine B_Md_marks_45 hsl ⟨fun g => absurd g (by omega), fun _ => ⟨by omega, ?_⟩⟩
    rw [hm]
    refine ⟨fun g => ⟨by unfold zI; omega, ?_⟩, fun g => ?_⟩
    · have e0 : ¬ (fun k => zmk T (zln T L k)) (k + 1) = 1 := by simp only; omega
      have h0 := zmkr_0 (p := fun k => zmk T (zln T L k)) (k := k) e0
      rw [← ex] at h0
      refine ⟨fun g2 => B_Md_marks_82 hsl ⟨by omega, ?_⟩, fun g2 => B_Md_marks_82 hsl ⟨by omega, ?_⟩⟩
      · rw [hm]
        refine ⟨fun g3 => absurd g g3, fun _ => ⟨by unfold zI; omega, go (x.1, x.2.1, x.2.2.1 + 1, x.2.2.2) ?_⟩⟩
        rw [h0, if_pos g2]
      · rw [hm]
        refine ⟨fun g3 => absurd g g3, fun _ => ⟨by unfold zI; omega, go (x.1, x.2.1, x.2.2.1 + 1, x.2.2.1 + 1) ?_⟩⟩
        rw [h0, if_neg g2]
    · have e1 : (fun k => zmk T (zln T L k)) (k + 1) = 1 := by
        rcases zmk_01 T (zln T L (k + 1)) with y | y
        · exact absurd y g
        · exact y
      have h1 := zmkr_1 (p := fun k => zmk T (zln T L k)) (k := k) e1
      rw [← ex] at h1
      refine ⟨fun g2 => B_Md_marks_82 hsl ⟨by omega, ?_⟩, fun g2 => absurd (by omega) g2⟩
      rw [hm]
      refine ⟨fun _ => ⟨fun g3 => ⟨by unfold zI; omega, by unfold zI; omega, go (x.1 + 1, x.2.1, 0, x.2.2.2) ?_⟩, fun g3 => ⟨by unfold zI; omega, by unfold zI; omega, go (x.1 + 1, (k : Int) + 1, 0, x.2.2.2) ?_⟩⟩, fun g3 => absurd g g3⟩
      · rw [h1, if_neg g3]
      · rw [h1, if_pos (by omega)]
theorem m_marks {G : zG} {h sl : Nat} (hsl : 2 ≤ sl) {T : zTb} {L : Int → Int} {n w : Int} {M : zM} {Q : Int → zM → Prop} (hP : zPu T L) (hC : zMk T L M) (q : ∀ M', zSm zPB M M' → zMk T L M' → Q (zmrs T L n w) M') : zCt G (h + 7) sl 0 0 y_Md_marks [(2, 125), (0, n), (0, w)] M Q := by
  have q0 := q M (zSm.refl _ _) hC
  have h0 := hP.2.1.1
  unfold zmrs at q q0
  refine E_Md_marks hsl (c_isAheadM hsl hC.2.1.1 h0 hP.2.2 (by omega) (fun a1 b1 d1 => ⟨fun g => absurd g (by decide), fun _ => c_isIn hsl (fun a2 b2 => ⟨fun _ => ?_, fun g => absurd (by decide) g⟩) (fun g => ⟨fun g2 => absurd rfl g2, fun _ => ?_⟩)⟩) (fun g => ⟨fun _ => ?_, fun g2 => absurd rfl g2⟩))
  · obtain ⟨k, rfl⟩ : ∃ k : Nat, n = k := ⟨n.toNat, by omega⟩
    refine c_laysAhead hsl hP.1 hP.2.1 hP.2.2 hC.1 hC.2.1 (fun M' hM h61 ha => ?_)
    have qq := q M' hM (hC.frB hP.1 hM)
    rw [if_pos ⟨⟨a1, b1, d1⟩, a2, b2⟩, show ((k : Int)).toNat = k from by omega] at qq
    exact m_marksL hsl ha (by unfold zam; omega) (by omega) a2 b2 qq k 0 _ (by omega) rfl
  · rw [if_neg (by omega)] at q0; exact q0
  · rw [if_neg (by omega)] at q0; exact q0
