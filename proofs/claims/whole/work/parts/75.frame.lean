/-- what a tablet at t holds stays, if nothing from t on changes but its scene and its pile -/
def zKp (t : Int) (M M' : zM) : Prop := ∀ a k, t ≤ a → a ≤ t + 22 → ¬ (a = t ∧ (k = 8 ∨ k = 9)) → a ≠ t + 4 → M' a k = M a k
theorem zTcC.frG {T : zTb} {M M' : zM} {t c f e : Int} (hm : zKp t M M') (h : zTcC T M t c f e) : zTcC T M' t c f e := by
  unfold zTcC at h ⊢
  rw [hm (t + 2) 2 (by omega) (by omega) (by omega) (by omega)]
  exact ⟨h.1, h.2.1, h.2.2.1, zSeg_eq (fun j => hm (t + 3) j (by omega) (by omega) (by omega) (by omega)) h.2.2.2⟩
theorem zTc1.frG {T : zTb} {M M' : zM} {t c : Int} (h0 : 0 ≤ c) (h7 : c < 8) (hm : zKp t M M') (h : zTc1 T M t c) : zTc1 T M' t c := by
  have e : ∀ k, M' (t + 7 + 2 * c) k = M (t + 7 + 2 * c) k := fun k => hm _ _ (by omega) (by omega) (by omega) (by omega)
  obtain ⟨⟨a1, a2, a3, a4, a5, a6, a7, a8⟩, b, d⟩ := h
  unfold zTc1
  rw [e 1, e 2, e 3, e 4, e 5, e 6, e 7, e 8, e 9, e 10]
  exact ⟨⟨a1, a2, a3, a4, a5, a6, a7, a8⟩, fun g => (b g).frG hm, fun k k0 k6 => by rw [hm _ _ (by omega) (by omega) (by omega) (by omega)]; exact d k k0 k6⟩
theorem zTc.frG {T : zTb} {M M' : zM} {t : Int} (hT : zTok T) (hm : zKp t M M') (h : zTc T M t) : zTc T M' t := by
  have e : ∀ k, k ≠ 8 → k ≠ 9 → M' t k = M t k := fun k k8 k9 => hm _ _ (by omega) (by omega) (by omega) (by omega)
  have hn8 := hT.2.1
  obtain ⟨⟨a1, a2, a3, a4, a5⟩, b, d⟩ := h
  unfold zTc
  rw [e 2 (by decide) (by decide), e 3 (by decide) (by decide), e 4 (by decide) (by decide), e 5 (by decide) (by decide), e 6 (by decide) (by decide), e 7 (by decide) (by decide), hm (t + 2) 2 (by omega) (by omega) (by omega) (by omega)]
  exact ⟨⟨a1, a2, a3, a4, a5⟩, fun c c0 cc => (b c c0 cc).frG c0 (by omega) hm, fun g => (d g).frG hm⟩
