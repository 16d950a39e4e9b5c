/-! The class's tablet t (79, 102) holds T. -/
def zTcC (T : zTb) (M : zM) (t c f e : Int) : Prop := 0 ≤ f ∧ f + (T.2 c).length = e ∧ e ≤ M (t + 2) 2 ∧ zSeg false M (t + 3) f (T.2 c)
def zTc1 (T : zTb) (M : zM) (t c : Int) : Prop :=
  (M (t + 7 + 2 * c) 1 = T.1 c 0 ∧ M (t + 7 + 2 * c) 2 = T.1 c 1 ∧ M (t + 7 + 2 * c) 3 = T.1 c 2 ∧ M (t + 7 + 2 * c) 4 = T.1 c 3 ∧ M (t + 7 + 2 * c) 5 = T.1 c 4 ∧ M (t + 7 + 2 * c) 6 = T.1 c 5 ∧ M (t + 7 + 2 * c) 7 = T.1 c 6 ∧ M (t + 7 + 2 * c) 8 = T.1 c 7) ∧
  (2 ≤ T.1 c 0 → zTcC T M t c (M (t + 7 + 2 * c) 9) (M (t + 7 + 2 * c) 10)) ∧ ∀ k : Int, 0 ≤ k → k < 6 → M (t + 7 + 2 * c + 1) k = T.1 c (10 + k)
def zTc (T : zTb) (M : zM) (t : Int) : Prop :=
  (M t 2 = T.1 8 0 ∧ M t 3 = T.1 8 2 ∧ M t 4 = T.1 8 1 ∧ M t 5 = T.1 8 3 ∧ M (t + 2) 2 ≤ 1600) ∧ (∀ c, 0 ≤ c → c < T.1 8 0 → zTc1 T M t c) ∧ (T.1 8 3 = 1 → zTcC T M t 8 (M t 6) (M t 7))
def zPC (t l : Int) : Int → Int → Prop := fun a k => zPLn l a k ∨ a = t ∧ (k = 8 ∨ k = 9) ∨ a = t + 4
theorem zTcC.fr {T : zTb} {M M' : zM} {t l c f e : Int} (hl : l + 1 < t) (hm : zSm (zPC t l) M M') (h : zTcC T M t c f e) : zTcC T M' t c f e := by
  unfold zTcC at h ⊢
  rw [hm (t + 2) 2 (by unfold zPC zPLn; omega)]
  exact ⟨h.1, h.2.1, h.2.2.1, zSeg_eq (fun j => hm (t + 3) j (by unfold zPC zPLn; omega)) h.2.2.2⟩
theorem zTc1.fr {T : zTb} {M M' : zM} {t l c : Int} (hl : l + 1 < t) (h0 : 0 ≤ c) (hm : zSm (zPC t l) M M') (h : zTc1 T M t c) : zTc1 T M' t c := by
  have e : ∀ k, M' (t + 7 + 2 * c) k = M (t + 7 + 2 * c) k := fun k => hm _ _ (by unfold zPC zPLn; omega)
  obtain ⟨⟨a1, a2, a3, a4, a5, a6, a7, a8⟩, b, d⟩ := h
  unfold zTc1
  rw [e 1, e 2, e 3, e 4, e 5, e 6, e 7, e 8, e 9, e 10]
  exact ⟨⟨a1, a2, a3, a4, a5, a6, a7, a8⟩, fun g => (b g).fr hl hm, fun k k0 k6 => by rw [hm _ _ (by unfold zPC zPLn; omega)]; exact d k k0 k6⟩
theorem zTc.fr {T : zTb} {M M' : zM} {t l : Int} (hl : l + 1 < t) (hm : zSm (zPC t l) M M') (h : zTc T M t) : zTc T M' t := by
  have e : ∀ k, k ≠ 8 → k ≠ 9 → M' t k = M t k := fun k k8 k9 => hm _ _ (by unfold zPC zPLn; omega)
  obtain ⟨⟨a1, a2, a3, a4, a5⟩, b, d⟩ := h
  unfold zTc
  rw [e 2 (by decide) (by decide), e 3 (by decide) (by decide), e 4 (by decide) (by decide), e 5 (by decide) (by decide), e 6 (by decide) (by decide), e 7 (by decide) (by decide), hm (t + 2) 2 (by unfold zPC zPLn; omega)]
  exact ⟨⟨a1, a2, a3, a4, a5⟩, fun c c0 cc => (b c c0 cc).fr hl c0 hm, fun g => (d g).fr hl hm⟩
theorem zScn_T {G : zG} {h sl : Nat} (hsl : 1 ≤ sl) {t l n k prev : Int} {pv : Bool} {L : Int → Int} {M : zM} (ht : zK t = (8, 0)) (hl : zK l = (4, 0)) (e8 : M t 8 = l) (e9 : pv = true → M t 9 = prev) (hk : k ≤ n) (hn : n ≤ 8) (hL : zLc n L M l) : zScn G h sl false t (zokT k pv) (zEn L prev) M := by
  refine ⟨fun v Q h1 h2 hv q => Or.inl ⟨ht, ?_⟩, fun v a Q h1 h2 hv _ _ => ?_⟩
  · rw [zokT_ok] at hv
    rcases hv with rfl | ⟨rfl, hh⟩ | ⟨h3, h4⟩
    · refine E_Tablet_told hsl ⟨fun c => absurd rfl c, fun _ => ⟨ht, by rw [e8]; exact hl, ?_⟩⟩
      rw [e8, hL.1]
      simpa [zEn] using q
    · refine E_Tablet_told hsl ⟨fun _ => ⟨fun c => absurd rfl c, fun _ => ⟨ht, ?_⟩⟩, fun c => absurd (by decide) c⟩
      rw [e9 hh]
      simpa [zEn] using q
    · have e : zix false v = v - 48 := by unfold zix; rw [if_pos h3]
      rw [e]
      refine E_Tablet_told hsl ⟨fun _ => ⟨fun _ => ⟨fun c => absurd c (by omega), fun _ => ⟨fun c => absurd c (by omega), fun _ => ⟨ht, by rw [e8]; exact hl, ⟨by omega, by omega⟩, ?_⟩⟩⟩, fun c => absurd (by omega) c⟩, fun c => absurd (by omega) c⟩
      rw [e8, (hL.2.2 (v - 48) (by omega) (by omega)).1]
      simp only [zEn] at q
      rw [if_neg (by omega), if_neg (by omega), show v - 40 - 8 = v - 48 from by omega] at q
      exact q
  · rw [zokT_ok] at hv
    exact absurd hv (by omega)
