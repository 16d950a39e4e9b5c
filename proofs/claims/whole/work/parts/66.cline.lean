theorem zb_01 {u c : Int} (u0 : 0 ≤ u) (u1 : u < 256) (c0 : 0 ≤ c) (c1 : c < 8) : zbt u c = 0 ∨ zbt u c = 1 := by
  have h := zbt_f ⟨u.toNat, by omega⟩ ⟨c.toNat, by omega⟩
  simp only at h
  rw [Int.toNat_of_nonneg u0, Int.toNat_of_nonneg c0] at h
  rw [h]
  omega
theorem zb_set {u c : Int} (u0 : 0 ≤ u) (u1 : u < 256) (c0 : 0 ≤ c) (c1 : c < 8) : (0 ≤ zor u (zshl 1 c) ∧ zor u (zshl 1 c) < 256) ∧ ∀ d : Int, 0 ≤ d → d < 8 → zbt (zor u (zshl 1 c)) d = if d = c then 1 else zbt u d := by
  have h := zgo_1 ⟨u.toNat, by omega⟩ ⟨c.toNat, by omega⟩
  simp only at h
  rw [Int.toNat_of_nonneg u0, Int.toNat_of_nonneg c0] at h
  rw [h.1]
  refine ⟨by omega, fun d d0 d1 => ?_⟩
  have hb := (zgo_b ⟨c.toNat, by omega⟩ ⟨d.toNat, by omega⟩ ⟨u.toNat, by omega⟩).1
  have h2 := zbt_f ⟨zb1 u.toNat c.toNat, h.2⟩ ⟨d.toNat, by omega⟩
  have h3 := zbt_f ⟨u.toNat, by omega⟩ ⟨d.toNat, by omega⟩
  simp only [Fin.mk.injEq] at h2 h3 hb
  rw [Int.toNat_of_nonneg d0] at h2 h3
  rw [Int.toNat_of_nonneg u0] at h3
  rw [h2, h3, hb]
  by_cases q : d = c
  · subst q; simp
  · rw [if_neg (by omega), if_neg q]
theorem zb_clr {u c : Int} (u0 : 0 ≤ u) (u1 : u < 256) (c0 : 0 ≤ c) (c1 : c < 8) : (0 ≤ zand u (zxor (zshl 1 c) (-1)) ∧ zand u (zxor (zshl 1 c) (-1)) < 256) ∧ ∀ d : Int, 0 ≤ d → d < 8 → zbt (zand u (zxor (zshl 1 c) (-1))) d = if d = c then 0 else zbt u d := by
  have h := zgo_0 ⟨u.toNat, by omega⟩ ⟨c.toNat, by omega⟩
  simp only at h
  rw [Int.toNat_of_nonneg u0, Int.toNat_of_nonneg c0] at h
  rw [h.1]
  refine ⟨by omega, fun d d0 d1 => ?_⟩
  have hb := (zgo_b ⟨c.toNat, by omega⟩ ⟨d.toNat, by omega⟩ ⟨u.toNat, by omega⟩).2
  have h2 := zbt_f ⟨zb0 u.toNat c.toNat, h.2⟩ ⟨d.toNat, by omega⟩
  have h3 := zbt_f ⟨u.toNat, by omega⟩ ⟨d.toNat, by omega⟩
  simp only [Fin.mk.injEq] at h2 h3 hb
  rw [Int.toNat_of_nonneg d0] at h2 h3
  rw [Int.toNat_of_nonneg u0] at h3
  rw [h2, h3, hb]
  by_cases q : d = c
  · subst q; simp
  · rw [if_neg (by omega), if_neg q]
/-- the class's line l tells the line L, as far as n columns -/
def zLc (n : Int) (L : Int → Int) (M : zM) (l : Int) : Prop := M l 1 = L 0 ∧ (0 ≤ M l 2 ∧ M l 2 < 256) ∧ ∀ c, 0 ≤ c → c < n → M (l + 1) c = L (1 + c) ∧ zbt (M l 2) c = L (9 + c)
theorem zLc.fr {n : Int} {L : Int → Int} {M M' : zM} {l : Int} (e1 : M' l 1 = M l 1) (e2 : M' l 2 = M l 2) (e : ∀ k, M' (l + 1) k = M (l + 1) k) (h : zLc n L M l) : zLc n L M' l := by
  unfold zLc
  rw [e1, e2]
  exact ⟨h.1, h.2.1, fun c a b => by rw [e]; exact h.2.2 c a b⟩
theorem zLc.val {n c v : Int} {L : Int → Int} {M : zM} {l : Int} (h8 : c < 8) (h0 : 0 ≤ c) (h : zLc n L M l) : zLc n (zup L (1 + c) v) (zwr M (l + 1) c v) l := by
  unfold zLc
  rw [zwr_o _ (by omega), zwr_o _ (by omega), zup_o _ _ (by omega)]
  refine ⟨h.1, h.2.1, fun e e0 ee => ?_⟩
  have hh := h.2.2 e e0 ee
  by_cases q : e = c
  · subst q
    rw [zwr_s, zup_s, zup_o _ _ (by omega)]
    exact ⟨rfl, hh.2⟩
  · rw [zwr_k _ q, zup_o _ _ (by omega)]
    refine ⟨hh.1, ?_⟩
    by_cases q2 : 9 + e = 1 + c
    · omega
    · rw [zup_o _ _ q2]
      exact hh.2
theorem c_goesUp {G : zG} {h sl : Nat} (hsl : 1 ≤ sl) {l c : Int} {M : zM} {Q : Int → zM → Prop} (hk : zK l = (4, 0)) (u : 0 ≤ M l 2 ∧ M l 2 < 256) (c0 : 0 ≤ c) (c8 : c < 8) (q : Q (zbt (M l 2) c) M) : zCt G h sl 0 0 y_Line_goesUp [(2, l), (0, c)] M Q := by
  have hb := zb_01 u.1 u.2 c0 c8
  unfold zbt at hb q
  refine E_Line_goesUp hsl ⟨hk, fun g => ?_, fun g => ?_⟩
  · rw [show zand (zshr (M l 2) c) 1 = 0 from by omega] at q; exact q
  · rw [show zand (zshr (M l 2) c) 1 = 1 from by omega] at q; exact q
theorem c_go {G : zG} {h sl : Nat} (hsl : 1 ≤ sl) {l c v n : Int} {L : Int → Int} {M : zM} {Q : Int → zM → Prop} (hk : zK l = (4, 0)) (hl : zLc n L M l) (hn : n ≤ 8) (c0 : 0 ≤ c) (c8 : c < 8) (hv : v = 0 ∨ v = 1) (q : ∀ w, zLc n (zup L (9 + c) v) (zwr M l 2 w) l → Q 0 (zwr M l 2 w)) : zCt G h sl 0 0 y_Line_go [(2, l), (0, c), (0, v)] M Q := by
  have key : ∀ w, (0 ≤ w ∧ w < 256) → (∀ d : Int, 0 ≤ d → d < 8 → zbt w d = if d = c then v else zbt (M l 2) d) → Q 0 (zwr M l 2 w) := fun w hw hb => by
    refine q w ?_
    unfold zLc
    rw [zwr_k _ (by decide), zwr_s, zup_o _ _ (by omega)]
    refine ⟨hl.1, hw, fun e e0 ee => ?_⟩
    rw [zwr_o _ (by omega), zup_o _ _ (by omega), hb e e0 (by omega)]
    refine ⟨(hl.2.2 e e0 ee).1, ?_⟩
    by_cases qe : e = c
    · subst qe
      rw [zup_s, if_pos rfl]
    · rw [if_neg qe, zup_o _ _ (by omega)]
      exact (hl.2.2 e e0 ee).2
  refine E_Line_go hsl ⟨fun g => ⟨hk, ?_⟩, fun g => ⟨hk, ?_⟩⟩
  · have hb := zb_clr hl.2.1.1 hl.2.1.2 c0 c8
    exact key _ hb.1 (by rw [g]; exact hb.2)
  · have hb := zb_set hl.2.1.1 hl.2.1.2 c0 c8
    exact key _ hb.1 (by rw [show v = 1 from by omega]; exact hb.2)
