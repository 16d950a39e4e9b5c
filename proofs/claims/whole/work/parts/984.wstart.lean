/-! THE LAW, from its start on. -/
theorem zwr00 {M : zM} {v a k : Int} (h : a ≠ 0) : zwr M 0 0 v a k = M a k := zwr_o M h
theorem zvk2_neg {o : Int} : ∀ (l : List (Int × Int × Int)), l.all (fun q => decide (0 ≤ q.1)) = true → o < 0 → ∀ k, zvk2 l o k = none
  | [], _, _, _ => rfl
  | (a, b, v) :: r, h, hm, k => by
    rw [List.all_cons, Bool.and_eq_true] at h
    show (if o = a ∧ k = b then some v else zvk2 r o k) = none
    rw [if_neg (fun y => ?_)]
    · exact zvk2_neg r h.2 hm k
    · have e := of_decide_eq_true h.1
      have e : 0 ≤ a := e
      omega
theorem zIv_start {M M' : zM} (hM : ∀ a k, 1 ≤ a → M a k = 0) (hP : zPZ M M') : zIv 0 (zvl2 l_Md (zwr M' 0 0 125)) := by
  obtain ⟨hs, hC, p1, p2, p3, p4, p5, p6⟩ := hP
  have lo : ∀ a k : Int, 1 ≤ a → a < 125 → zvl2 l_Md (zwr M' 0 0 125) a k = M' a k := fun a k a1 a2 => (zvl2_none (zvk2_lt l_Md 125 zll_Md (by omega) a2 k)).trans (zwr00 (by omega))
  have l0 : ∀ a k : Int, 1 ≤ a → a < 125 → ¬ zFR 79 a k → zvk2 l_Zt a k = none → zvl2 l_Md (zwr M' 0 0 125) a k = 0 := fun a k a1 a2 e1 e2 => (lo a k a1 a2).trans ((hs a k e1).trans ((zvl2_none e2).trans (hM a k a1)))
  have l1 : ∀ a k v : Int, 1 ≤ a → a < 125 → ¬ zFR 79 a k → zvk2 l_Zt a k = some v → zvl2 l_Md (zwr M' 0 0 125) a k = v := fun a k v a1 a2 e1 e2 => (lo a k a1 a2).trans ((hs a k e1).trans (zvl2_at e2))
  have hi : ∀ a k : Int, 125 ≤ a → zwr M' 0 0 125 a k = 0 := fun a k ha => (zwr00 (by omega)).trans ((hs a k (by unfold zFR; omega)).trans ((zvl2_none (zvk2_gt l_Zt 125 zlg_Zt ha k)).trans (hM a k (by omega))))
  have h1 : ∀ a k v : Int, zvk2 l_Md a k = some v → zvl2 l_Md (zwr M' 0 0 125) a k = v := fun a k v e => zvl2_at e
  have h0 : ∀ a k : Int, 125 ≤ a → zvk2 l_Md a k = none → zvl2 l_Md (zwr M' 0 0 125) a k = 0 := fun a k ha e => (zvl2_none e).trans (hi a k ha)
  generalize zvl2 l_Md (zwr M' 0 0 125) = M2 at lo l0 l1 h0 h1 ⊢
  have nv : ∀ s, ¬ zvs 0 0 s := fun s y => by unfold zvs at y; omega
  refine ⟨zTbz, zbg zTbz, 79, (0, fun _ => 0, fun _ => 0), fun _ _ => 0, 0, 0, 0, fun _ => 0, 0, fun _ => 0, fun _ => 0, 0, fun _ => 0, 1, 0, -1, ?_, ?_, ?_⟩
  · refine ⟨⟨zTbz_ok, (zbg_ok zTbz_ok).2, by decide⟩, ⟨⟨by decide, by decide⟩, ⟨by decide, by decide⟩, ⟨by decide, by decide⟩, fun s y => absurd y (nv s), fun s r y => absurd y (nv s)⟩, ⟨⟨by decide, by decide⟩, fun k k0 k1 => by omega⟩, ⟨⟨by decide, by decide⟩, fun k k0 k1 => by omega⟩, fun k _ _ => ⟨Int.le_refl 0, Int.le_refl 0⟩, by decide, ⟨by decide, by decide⟩, by decide⟩
  · refine ⟨⟨hC.fr zTbz_ok (fun a k p => lo a k (by unfold zdCk at p; omega) (by unfold zdCk at p; omega)), l1 _ _ _ (by decide) (by decide) (by unfold zFR; omega) (by decide +kernel)⟩, ⟨⟨by rw [lo _ _ (by decide) (by decide)]; exact p1, fun k k0 k1 => absurd k1 (Int.not_lt.mpr k0), fun k k0 k1 => absurd k1 (Int.not_lt.mpr k0)⟩, l0 _ _ (by decide) (by decide) (by unfold zFR; omega) (by decide +kernel), by rw [lo _ _ (by decide) (by decide)]; exact p2, fun s y => absurd y (nv s)⟩, ⟨⟨by rw [lo _ _ (by decide) (by decide)]; exact p3, fun k k0 k1 => by omega⟩, fun y => absurd (by rw [lo _ _ (by decide) (by decide)]; exact p4) y, fun y => absurd (by rw [lo _ _ (by decide) (by decide)]; exact p5) y, fun c c0 cn => ?_, fun v v0 v1 => ?_⟩, ⟨l0 _ _ (by decide) (by decide) (by unfold zFR; omega) (by decide +kernel), fun k k0 k1 => by omega⟩, fun k k0 k6 => ?_, ⟨l0 _ _ (by decide) (by decide) (by unfold zFR; omega) (by decide +kernel), fun k k0 k1 => by omega⟩, l1 _ _ _ (by decide) (by decide) (by unfold zFR; omega) (by decide +kernel), l0 _ _ (by decide) (by decide) (by unfold zFR; omega) (by decide +kernel), l1 _ _ _ (by decide) (by decide) (by unfold zFR; omega) (by decide +kernel)⟩
    · have cn : c < 0 := cn
      omega
    · exact l0 _ _ (by decide) (by decide) (by unfold zFR; omega) (zvk2_nob l_Zt (by decide +kernel) _)
    · exact l0 _ _ (by decide) (by decide) (by unfold zFR; omega) (zvk2_nob l_Zt (by decide +kernel) _)
  · refine ⟨⟨⟨⟨h0 _ _ (by decide) (by decide +kernel), h0 _ _ (by decide) (by decide +kernel), h0 _ _ (by decide) (by decide +kernel), fun c c0 cn => ?_, fun y => ?_⟩, ⟨h0 _ _ (by decide) (by decide +kernel), fun c c0 cn => ?_⟩, fun k hk c c0 cn => ?_⟩, fun c c0 cn => ?_⟩, ⟨⟨h0 _ _ (by decide) (by decide +kernel), fun k k0 k1 => ?_⟩, h0 _ _ (by decide) (by decide +kernel), h0 _ _ (by decide) (by decide +kernel), fun s y => absurd y (nv s)⟩, ⟨h0 _ _ (by decide) (by decide +kernel), fun k k0 k1 => by omega⟩, ⟨h0 _ _ (by decide) (by decide +kernel), fun k k0 k1 => by omega⟩, fun k k0 k6 => ?_, ⟨h0 _ _ (by decide) (by decide +kernel), fun k k0 k1 => by omega⟩, ?_, h0 _ _ (by decide) (by decide +kernel), ?_⟩
    · have cn : c < 0 := cn
      omega
    · have y : (0 : Int) = 1 := y
      omega
    · have cn : c < 0 := cn
      omega
    · have cn : c < 0 := cn
      omega
    · have cn : c < 0 := cn
      omega
    · have k1 : k < 0 := k1
      omega
    · exact h0 _ _ (by decide) (zvk2_nob l_Md (by decide +kernel) _)
    · exact h1 _ _ _ (by decide +kernel)
    · exact h1 _ _ _ (by decide +kernel)
theorem w_start {G : zG} {f : Int → Int} {len : Int} (l0 : 0 ≤ len) (l3 : len ≤ 3072) (hz : ∀ j, zI (f j)) : zX G (y_Law_law, 2048, 0) (600000, 7302250, 0, 0) 0 [(0, (2, (-1)))] [] (zB f len) (fun r _ => r = 1) := by
  refine x_new (c := 0) (zdm d_Law_law_0 0 rfl) nw_Law_7 (zB_0 (by decide)) (c' := 1) (by decide) rfl (by decide) (by decide) ?_
  refine x_dup (zdm d_Law_law_0 1 rfl) z2n1 ?_
  refine x_callI (h := 2047) (n := 0) (mc := 123) (ms := 22585) (Q1 := fun _ M' => zPZ (zwr (zB f len) 0 0 1) M') (zdm d_Law_law_0 2 rfl) ki_Law_9 (As := []) rfl rfl (by decide) (Nat.le_of_ble_eq_true rfl) (by decide) (by decide) (I_Zt2 (h := 2039) (zwr_s _ _ _ _) (fun a k ha => (zwr00 (by omega)).trans (zB_0 (by omega))) (fun M' hp => hp)) (fun _ M' hP => ?_)
  have e0 : M' 0 0 = 124 := (hP.1 0 0 (by unfold zFR; omega)).trans (zvl2_at (by decide +kernel))
  have en : ∀ a k, a < 0 → M' a k = zB f len a k := fun a k ha => (hP.1 a k (by unfold zFR; omega)).trans ((zvl2_none (zvk2_neg l_Zt (by decide +kernel) ha k)).trans (zwr00 (by omega)))
  refine x_astore_n (zdm d_Law_law_0 3 rfl) rfl (zlt rfl) rfl ?_
  refine x_new (c := 124) (zdm d_Law_law_0 4 rfl) nw_Law_10 e0 (c' := 125) (by decide) rfl (by decide) (by decide) ?_
  refine x_dup (zdm d_Law_law_0 5 rfl) z2n1 ?_
  refine x_callI (h := 2047) (n := 0) (mc := 71) (ms := 31213) (Q1 := fun _ M2 => M2 = zvl2 l_Md (zwr M' 0 0 125)) (zdm d_Law_law_0 6 rfl) ki_Law_12 (As := []) rfl rfl (by decide) (Nat.le_of_ble_eq_true rfl) (by decide) (by decide) (I_Md (h := 2046) (zwr_s _ _ _ _) rfl) (fun _ M2 h2 => ?_)
  have hI : zIv 0 M2 := by rw [h2]; exact zIv_start (fun a k ha => (zwr00 (by omega)).trans (zB_0 (by omega))) hP
  have hF : zFin 2 M2 := by
    rw [h2]
    refine zfin_Md (fun a k ha => (zwr00 (by omega)).trans ((hP.1 a k (by unfold zFR; omega)).trans ((zvl2_none (zvk2_gt l_Zt 125 zlg_Zt ha k)).trans ((zwr00 (by omega)).trans (zB_0 (by omega)))))) (fun o k h1 h9 => ?_)
    have ho : 1 ≤ o := by
      by_cases c : o ≤ 0
      · rw [zlv_nul c] at h1; omega
      · omega
    have nf : ¬ zFR 79 o k := fun y => by rw [zFR_lv y] at h1; omega
    rw [zwr00 (by omega), hP.1 o k nf]
    exact zfin_Zt (fun a k ha => (zwr00 (by omega)).trans (zB_0 (by omega))) o k h1 h9
  have en2 : ∀ a k, a < 0 → M2 a k = zB f len a k := fun a k ha => by
    rw [h2, zvl2_none (zvk2_neg l_Md (by decide +kernel) ha k), zwr00 (by omega)]
    exact en a k ha
  refine x_astore_n (zdm d_Law_law_0 7 rfl) rfl (zlt rfl) rfl ?_
  refine x_iconst (zdm d_Law_law_0 8 rfl) (zIl rfl) ?_
  refine x_istore_n (zdm d_Law_law_0 9 rfl) rfl (zlt rfl) rfl ?_
  refine zX.seal (sl' := 2) hF (by decide) ?_
  refine zX.sub [3, 2, 1, 0] rfl ?_
  have e2 : M2 (-2) 0 = len := (en2 _ _ (by decide)).trans rfl
  exact w_loop (h := 1997) (by decide) 600 0 0 M2 (by omega) (by decide) (by decide) (by omega) (by omega) (fun j => by rw [en2 _ _ (by decide)]; exact hz j) hI (by decide)
