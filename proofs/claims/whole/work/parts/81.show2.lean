theorem c_show {G : zG} {h sl : Nat} (hsl : 1 ≤ sl) {T : zTb} {A : Int → Int} {o t l x : Int} {k m : Nat} {M : zM} {Q : Int → zM → Prop} (ho : o = 8 ∨ o = 13) (hk : zK l = (4, 0)) (hlo : l + 1 < o ∨ o + 4 < l) (hT : zTok T) (hc : zCo T A m M o t) (hkm : k < m) (q : ∀ M', zSm (fun a j => a = l + 1 ∨ a = l ∧ j = 1) M M' → M' l 1 = x → (∀ c : Int, 0 ≤ c → c < T.1 8 0 → M' (l + 1) c = zln T A k (1 + c)) → Q 0 M') : zCt G (h + 1) sl 0 0 y_Course_show [(2, o), (0, (k : Int)), (0, x), (2, l)] M Q := by
  have e0 : ∀ a j, a ≠ l → (zwr M l 1 x) a j = M a j := fun a j ha => zwr_o _ ha
  have hc1 : zCo T A m (zwr M l 1 x) o t := by
    obtain ⟨a1, a2, a3, a4, a5, a6⟩ := hc
    refine ⟨by rw [e0 _ _ (by omega)]; exact a1, by rw [e0 _ _ (by omega)]; exact a2, a3, a4, a5.fr (e0 _ _ (by omega)) (e0 _ _ (by omega)) (fun j => e0 _ _ (by omega)), fun i hi => ?_⟩
    rw [e0 _ _ (by omega)]
    exact ⟨(a6 i hi).1, fun c c0 cn => by rw [e0 _ _ (by omega)]; exact (a6 i hi).2 c c0 cn⟩
  refine E_Course_show hsl ⟨hk, ?_⟩
  exact c_showL (M0 := zwr M l 1 x) (h := h) hsl ho hk hlo hT hc1 hkm (fun M' hM' hr => q M' (fun a j n => by rw [hM' a j (by omega), zwr_i, if_neg (by omega)]) (by rw [hM' _ _ (by omega), zwr_s]) hr) 8 0 rfl (zSm.refl _ _) (fun c c0 cj _ => absurd cj (by omega))
