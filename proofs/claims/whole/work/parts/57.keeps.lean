theorem zsm_in {T : zTb} {L : Int → Int} {n c prev : Int} (hT : ∀ c, 0 ≤ c → c < n → zTok1 T c) (hL : zLok T n L) (h0 : 0 ≤ c) (hc : c < n) (hs : T.1 c 0 = 2 ∨ T.1 c 0 = 3) (hp : -1000000 ≤ prev ∧ prev ≤ 1000000) : -1000000 ≤ zsm T L c prev ∧ zsm T L c prev ≤ 1000000 := by
  have hz : zty (zokT c true) (T.2 c) [] = some [false] := by
    have := hT c h0 hc
    unfold zTok1 at this
    rcases this with h | h | h | h
    · omega
    · omega
    · exact h.2.2.2.2.2.2.2
    · exact h.2.2.2.2
  have := zval_in (zEn_ok (k := c) (pv := true) hT hL (by omega) (fun _ => hp)) hz
  rw [if_neg (by decide)] at this
  exact this
theorem zCok_zig {T : zTb} {c d v u : Int} {L : Int → Int} (ht : T.1 c 0 = 0) (h : zCok T c (L (1 + c)) (L (9 + c))) (hc : 0 ≤ c ∧ c < 8) (hd : 1 ≤ d ∧ d ≤ T.1 c 2 - T.1 c 1) (hv : zzg (T.1 c 1) (T.1 c 2) d L c (1 + c) = v) (hu : zzg (T.1 c 1) (T.1 c 2) d L c (9 + c) = u) : zCok T c v u := by
  unfold zCok at h ⊢
  rw [if_neg (by omega), if_pos ht] at h
  rw [if_neg (by omega), if_pos ht]
  unfold zzg at hv hu
  have hz : zzv L c d = L (1 + c) + d ∨ zzv L c d = L (1 + c) - d := by
    unfold zzv
    split
    · exact Or.inl rfl
    · exact Or.inr rfl
  split at hv
  · rename_i g
    rw [if_pos g, zup_o _ _ (by omega), zup_s] at hu
    rw [zup_s] at hv
    omega
  · rename_i g
    rw [if_neg g] at hu
    split at hv
    · rename_i g2
      rw [if_pos g2, zup_o _ _ (by omega), zup_s] at hu
      rw [zup_s] at hv
      omega
    · rename_i g2
      rw [if_neg g2, zup_o _ _ (by omega)] at hu
      rw [zup_s] at hv
      omega
theorem zzg_o {lo hi d : Int} {L : Int → Int} {c j : Int} (h1 : j ≠ 1 + c) (h2 : j ≠ 9 + c) : zzg lo hi d L c j = L j := by
  unfold zzg
  split
  · rw [zup_o _ _ h1, zup_o _ _ h2]
  · split
    · rw [zup_o _ _ h1, zup_o _ _ h2]
    · rw [zup_o _ _ h1]
theorem zmv_o {T : zTb} {L : Int → Int} {c j : Int} (h1 : j ≠ 1 + c) (h2 : j ≠ 9 + c) : zmv T L c j = L j := by
  unfold zmv
  split
  · exact zzg_o h1 h2
  · split
    · rw [zup_o _ _ h1]
    · split <;> rw [zup_o _ _ h1]
theorem zmv_ok {T : zTb} {L : Int → Int} {n c : Int} (hT : ∀ c, 0 ≤ c → c < n → zTok1 T c) (hn : n ≤ 8) (hL : zLok T n L) (h0 : 0 ≤ c) (hc : c < n) : zLok T n (zmv T L c) := by
  have hcok := hL.2.2 c h0 hc
  have ht := hT c h0 hc
  refine ⟨by rw [zmv_o (by omega) (by omega)]; exact hL.1, by rw [zmv_o (by omega) (by omega)]; exact hL.2.1, fun e e0 ee => ?_⟩
  by_cases hce : e = c
  · subst hce
    have hin := hcok.in ht
    unfold zmv
    split
    · rename_i g
      refine zCok_zig g hcok (by omega) ?_ rfl rfl
      unfold zTok1 at ht
      omega
    · rename_i g
      split
      · rename_i g1
        rw [zup_s, zup_o _ _ (by omega)]
        unfold zTok1 at ht
        unfold zCok at hcok ⊢
        rw [if_neg (by omega)] at hcok ⊢
        refine ⟨?_, hcok.2⟩
        have := zarc_in (q := T.1 e 7) (g := T.1 e 2) (f := T.1 e 5) (s := T.1 e 6) (v := L (1 + e)) (by omega) (by omega) (by omega) (by omega) (by omega) (by omega) (by omega) (by omega) (by omega)
        omega
      · rename_i g1
        split
        · rename_i g2
          rw [zup_s, zup_o _ _ (by omega)]
          unfold zTok1 at ht
          unfold zCok at hcok ⊢
          rw [if_neg (by omega)] at hcok ⊢
          refine ⟨?_, hcok.2⟩
          have h1 := Int.emod_nonneg (L (1 + e) + zsm T L e (L (1 + e))) (by omega : T.1 e 2 + 1 ≠ 0)
          have h2 := Int.emod_lt_of_pos (L (1 + e) + zsm T L e (L (1 + e))) (by omega : 0 < T.1 e 2 + 1)
          omega
        · rename_i g2
          rw [zup_s, zup_o _ _ (by omega)]
          have g3 : T.1 e 0 = 3 := by unfold zTok1 at ht; omega
          unfold zCok at hcok ⊢
          rw [if_pos g3] at hcok ⊢
          exact ⟨zsm_in hT hL h0 hc (Or.inr g3) hin, hcok.2⟩
  · rw [zmv_o (by omega) (by omega), zmv_o (by omega) (by omega)]
    exact hL.2.2 e e0 ee
theorem znk_0 {T : zTb} {L : Int → Int} : ∀ k : Nat, (k : Int) ≤ 8 → znk T L k 0 = L 0 + 1
  | 0, _ => zup_s _ _ _
  | k + 1, h => by
    show zmv T (znk T L k) k 0 = _
    rw [zmv_o (by omega) (by omega)]
    exact znk_0 k (by omega)
theorem znk_ok {T : zTb} {L : Int → Int} {n : Int} (hT : ∀ c, 0 ≤ c → c < n → zTok1 T c) (hn : n ≤ 8) (hL : zLok T n L) (h9 : L 0 < 9000) : ∀ k : Nat, (k : Int) ≤ n → zLok T n (znk T L k)
  | 0, _ => ⟨by show 0 ≤ zup L 0 (L 0 + 1) 0; rw [zup_s]; have := hL.1; omega, by show zup L 0 (L 0 + 1) 0 ≤ 9000; rw [zup_s]; omega, fun c h0 hc => by
      show zCok T c (zup L 0 (L 0 + 1) (1 + c)) (zup L 0 (L 0 + 1) (9 + c))
      rw [zup_o _ _ (by omega), zup_o _ _ (by omega)]
      exact hL.2.2 c h0 hc⟩
  | k + 1, h => zmv_ok hT hn (znk_ok hT hn hL h9 k (by omega)) (by omega) (by omega)
theorem znx_0 {T : zTb} {L : Int → Int} (hT : zTok T) : znx T L 0 = L 0 + 1 := znk_0 _ (by have := hT.1; have := hT.2.1; omega)
theorem znx_ok {T : zTb} {L : Int → Int} (hT : zTok T) (hL : zLok T (T.1 8 0) L) (h9 : L 0 < 9000) : zLok T (T.1 8 0) (znx T L) := znk_ok hT.2.2.2.2.2.2.2 hT.2.1 hL h9 _ (by have := hT.1; omega)
theorem zbk_ok {T : zTb} {n : Int} (hT : ∀ c, 0 ≤ c → c < n → zTok1 T c) (hn : n ≤ 8) : ∀ k : Nat, (k : Int) ≤ n → zbk T k 0 = 0 ∧ zLok T k (zbk T k)
  | 0, _ => ⟨rfl, by show (0 : Int) ≤ 0; omega, by show (0 : Int) ≤ 9000; omega, fun c h0 hc => absurd hc (by omega)⟩
  | k + 1, h => by
    obtain ⟨ih0, ih⟩ := zbk_ok hT hn k (by omega)
    have e0 : zbk T (k + 1) 0 = 0 := by
      show zup (zup _ _ _) _ _ 0 = 0
      rw [zup_o _ _ (by omega), zup_o _ _ (by omega), ih0]
    refine ⟨e0, by rw [e0]; omega, by rw [e0]; omega, fun c h0 hc => ?_⟩
    show zCok T c (zup (zup _ _ _) _ _ (1 + c)) (zup (zup _ _ _) _ _ (9 + c))
    have ht := hT k (by omega) (by omega)
    by_cases hck : c = k
    · subst hck
      rw [zup_s, zup_o _ _ (by omega), zup_s]
      have hs : T.1 k 0 = 3 → -1000000 ≤ zsm T (zbk T k) k 0 ∧ zsm T (zbk T k) k 0 ≤ 1000000 := fun g => by
        have hz : zty (zokT k true) (T.2 k) [] = some [false] := by
          unfold zTok1 at ht
          rcases ht with h | h | h | h
          · omega
          · omega
          · omega
          · exact h.2.2.2.2
        have := zval_in (zEn_ok (k := k) (prev := 0) (pv := true) (fun c a b => hT c a (by omega)) ih (by omega) (fun _ => by omega)) hz
        rw [if_neg (by decide)] at this
        exact this
      unfold zCok
      unfold zTok1 at ht
      split
      · rename_i g
        exact ⟨hs g, by omega⟩
      · rename_i g
        split <;> omega
    · rw [zup_o _ _ (by omega), zup_o _ _ (by omega), zup_o _ _ (by omega), zup_o _ _ (by omega)]
      exact ih.2.2 c h0 (by omega)
theorem zbg_ok {T : zTb} (hT : zTok T) : zbg T 0 = 0 ∧ zLok T (T.1 8 0) (zbg T) := by
  have h := zbk_ok hT.2.2.2.2.2.2.2 hT.2.1 (T.1 8 0).toNat (by have := hT.1; omega)
  have e : (((T.1 8 0).toNat : Nat) : Int) = T.1 8 0 := by have := hT.1; omega
  rw [e] at h
  exact h
theorem zln_ok {T : zTb} {L : Int → Int} (hT : zTok T) (hL : zLok T (T.1 8 0) L) : ∀ k : Nat, L 0 + k ≤ 9000 → zln T L k 0 = L 0 + k ∧ zLok T (T.1 8 0) (zln T L k)
  | 0, _ => ⟨by simp [zln], hL⟩
  | k + 1, h => by
    obtain ⟨a, b⟩ := zln_ok hT hL k (by omega)
    refine ⟨?_, znx_ok hT b (by omega)⟩
    show znx T (zln T L k) 0 = _
    rw [znx_0 hT]
    omega
