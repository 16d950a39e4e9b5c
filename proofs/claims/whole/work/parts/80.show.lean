theorem c_showL {G : zG} {h sl : Nat} (hsl : 1 ≤ sl) {T : zTb} {A : Int → Int} {o t l : Int} {k m : Nat} {M0 : zM} {Q : Int → zM → Prop} (ho : o = 8 ∨ o = 13) (hk : zK l = (4, 0)) (hlo : l + 1 < o ∨ o + 4 < l) (hT : zTok T) (hc : zCo T A m M0 o t) (hkm : k < m) (q : ∀ M', zSm (fun a _ => a = l + 1) M0 M' → (∀ c : Int, 0 ≤ c → c < T.1 8 0 → M' (l + 1) c = zln T A k (1 + c)) → Q 0 M') :
    ∀ (d j : Nat) {M : zM} {u : Nat × Nat × Nat × Nat}, d + j = 8 → zSm (fun a _ => a = l + 1) M0 M → (∀ c : Int, 0 ≤ c → c < (j : Int) → c < T.1 8 0 → M (l + 1) c = zln T A k (1 + c)) → zX G (y_Course_show, h + 1, sl) u 8 [(0, (2, o)), (1, (0, (k : Int))), (3, (2, l)), (4, (0, (j : Int)))] [] M Q
  | 0, j, M, u, e, hM, hr => B_Course_show_8 hsl ⟨fun _ => q M hM (fun c c0 cn => hr c c0 (by have := hT.2.1; omega) cn), fun g => absurd (by omega) g⟩
  | d + 1, j, M, u, e, hM, hr => by
    obtain ⟨h1, h2, h3, h4⟩ := zCo_len ho
    have e4 : M o 4 = m := by rw [hM _ _ (by omega)]; exact hc.2.1
    have eN := hc.2.2.2.1
    refine B_Course_show_8 hsl ⟨fun g => absurd g (by omega), fun _ => ⟨hk, h1, E_Course_told hsl ⟨fun g => absurd g (by omega), fun _ => ⟨h1, fun g => absurd g (by omega), fun _ => ⟨fun g => absurd g (by omega), fun _ => ⟨fun _ => ⟨by unfold zI; omega, by unfold zI; omega, by omega, by omega, by unfold zI; omega, ?_⟩, fun g => absurd (by omega) g⟩⟩⟩⟩⟩⟩
    have := c_showL (G := G) (h := h) (Q := Q) hsl ho hk hlo hT hc hkm q d (j + 1) (M := zwr M (l + 1) j (M (o + 3) ((k : Int) * 8 + j))) (u := u) (by omega) (hM.wr rfl) (fun c c0 cj cn => ?_)
    · rw [zcs] at this
      exact this
    · by_cases qc : c = j
      · subst qc
        rw [zwr_s, hM _ _ (by omega)]
        exact ((hc.2.2.2.2.2 k hkm).2 _ c0 cn).1
      · rw [zwr_k _ qc]
        exact hr c c0 (by omega) cn
