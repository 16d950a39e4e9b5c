theorem c_begin {G : zG} {h sl : Nat} (hsl : 1 ≤ sl) {T : zTb} {t l : Int} {M : zM} {Q : Int → zM → Prop} (ht : zK t = (8, 0)) (hlt : l + 1 < t) (hk : zK l = (4, 0)) (hT : zTok T) (hm : zTc T M t) (q : ∀ M', zSm (zPC t l) M M' → zLc (T.1 8 0) (zbg T) M' l → Q 0 M') : zCt G (h + 3) sl 0 0 y_Tablet_begin [(2, t), (2, l)] M Q := by
  have h1 : zSm (zPC t l) M (zwr (zwr (zwr (zwr M l 1 0) l 2 0) t 8 l) t 9 0) := ((((zSm.refl _ M).wr (Or.inl (Or.inl ⟨rfl, Or.inl rfl⟩))).wr (Or.inl (Or.inl ⟨rfl, Or.inr rfl⟩))).wr (Or.inr (Or.inl ⟨rfl, Or.inl rfl⟩))).wr (Or.inr (Or.inl ⟨rfl, Or.inr rfl⟩))
  refine E_Tablet_begin hsl ⟨hk, ht, ?_⟩
  refine c_beginL (M0 := M) (h := h) hsl ht hlt hk hT q (T.1 8 0).toNat 0 (by omega) h1 (hm.fr hlt h1) (by rw [zwr_k _ (by decide), zwr_s]) (zwr_s _ _ _ _) ⟨?_, ?_, fun c c0 cc => absurd cc (by omega)⟩
  · rw [zwr_o _ (by omega), zwr_o _ (by omega), zwr_k _ (by decide), zwr_s]
    rfl
  · rw [zwr_o _ (by omega), zwr_o _ (by omega), zwr_s]
    omega
