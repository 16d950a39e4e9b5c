/-- the Model tells the last of N kept lines: numbers kl, how many untrue ku -/
def zKm (N : Int) (kl ku : Int → Int) (M : zM) : Prop := M 164 17 = zkt4 N ∧ ∀ k : Int, 0 ≤ k → k < zkt4 N → M 164 (18 + 2 * k) = kl (N - zkt4 N + k) ∧ M 164 (19 + 2 * k) = ku (N - zkt4 N + k)
def zPk : Int → Int → Prop := fun a k => a = 164 ∧ 17 ≤ k ∧ k < 98
theorem c_isKeptS {G : zG} {h sl : Nat} (hsl : 2 ≤ sl) {M0 : zM} {Q : Int → zM → Prop} (q : ∀ M' u, zSm (fun a k => a = 164 ∧ 18 ≤ k ∧ k < 96) M0 M' → (∀ i : Int, 18 ≤ i → i < 96 → M' 164 i = M0 164 (i + 2)) → zX G (y_Md_isKept, h + 1, sl) u 55 [(0, (2, 125))] [] M' Q) :
    ∀ (d k : Nat) {M : zM} {u : Nat × Nat × Nat × Nat}, d + k = 96 → 18 ≤ k → zSm (fun a k => a = 164 ∧ 18 ≤ k ∧ k < 96) M0 M → (∀ i : Int, 18 ≤ i → i < (k : Int) → M 164 i = M0 164 (i + 2)) → (∀ i : Int, (k : Int) ≤ i → M 164 i = M0 164 i) → zX G (y_Md_isKept, h + 1, sl) u 15 [(0, (2, 125)), (1, (0, (k : Int)))] [] M Q
  | 0, k, M, u, e, hk, hM, hr, ho => B_Md_isKept_15 hsl ⟨fun _ => q M u hM (fun i a b => hr i a (by omega)), fun g => absurd (by omega) g⟩
  | d + 1, k, M, u, e, hk, hM, hr, ho => by
    refine B_Md_isKept_15 hsl ⟨fun g => absurd g (by omega), fun _ => ⟨by unfold zI; omega, by omega, by omega, by unfold zI; omega, ?_⟩⟩
    have := c_isKeptS (G := G) (h := h) (Q := Q) hsl q d (k + 1) (M := zwr M 164 k (M 164 (k + 2))) (u := u) (by omega) (by omega) (hM.wr (by omega)) (fun i a b => ?_) (fun i a => ?_)
    · rw [zcs] at this
      exact this
    · by_cases c : i = k
      · subst c
        rw [zwr_s]
        exact ho _ (by omega)
      · rw [zwr_k _ c]
        exact hr i a (by omega)
    · rw [zwr_k _ (by omega)]
      exact ho i (by omega)
