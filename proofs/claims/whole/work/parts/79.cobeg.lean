theorem c_coBegin {G : zG} {h sl : Nat} (hsl : 1 ≤ sl) {T : zTb} {A : Int → Int} {o t l : Int} {M : zM} {Q : Int → zM → Prop} (ho : o = 8 ∨ o = 13) (hk : zK l = (4, 0)) (hlo : l + 1 < o ∨ o + 4 < l) (hT : zTok T) (hl : zLc (T.1 8 0) A M l) (q : ∀ M', zSm (fun a k => a = o ∧ (k = 3 ∨ k = 4) ∨ zPLn (o + 1) a k ∨ a = o + 3 ∨ a = o + 4) M M' → zCo T A 1 M' o t → Q 0 M') : zCt G (h + 3) sl 0 0 y_Course_begin [(2, o), (2, t), (2, l)] M Q := by
  obtain ⟨h1, h2, h3, h4⟩ := zCo_len ho
  have h41 := (zs_2 h1).2.2.2
  refine E_Course_begin hsl ⟨h1, ?_⟩
  refine c_copy (h := h + 1) hsl h41 hk (by omega) (by omega) (by omega) hT.2.1 (hl.fr (M' := zwr M o 3 t) (zwr_o _ (by omega)) (zwr_o _ (by omega)) (fun j => zwr_o _ (by omega))) (fun M1 hM1 hl1 => ?_)
  have hl2 : zLc (T.1 8 0) A (zwr M1 o 4 0) (o + 1) := hl1.fr (zwr_o _ (by omega)) (zwr_o _ (by omega)) (fun j => zwr_o _ (by omega))
  refine c_store hsl ho hT (T := T) (A := A) (m := 0) (by rw [zwr_s]; rfl) (by omega) hl2 (fun k hk => absurd hk (by omega)) (fun M2 hM2 e4 hr2 => q M2 (fun a k n => ?_) ⟨?_, by rw [e4]; rfl, by omega, by omega, hl2.fr (hM2 _ _ (by unfold zPO; omega)) (hM2 _ _ (by unfold zPO; omega)) (fun j => hM2 _ _ (by unfold zPO; omega)), hr2⟩)
  · unfold zPLn at n
    rw [hM2 a k (by unfold zPO; omega), zwr_i, if_neg (by omega), hM1 a k (by unfold zPLn; omega), zwr_i, if_neg (by omega)]
  · rw [hM2 _ _ (by unfold zPO; omega), zwr_k _ (by decide), hM1 _ _ (by unfold zPLn; omega), zwr_s]
