/-! THE CLASS: marks(): lines shown, their values alone. -/
def zLv (n : Int) (L : Int → Int) (M : zM) (l : Int) : Prop := M l 1 = L 0 ∧ ∀ c, 0 ≤ c → c < n → M (l + 1) c = L (1 + c)
theorem zLv.fr {n : Int} {L : Int → Int} {M M' : zM} {l : Int} (e1 : M' l 1 = M l 1) (e : ∀ k, M' (l + 1) k = M (l + 1) k) (h : zLv n L M l) : zLv n L M' l :=
  ⟨by rw [e1]; exact h.1, fun c a b => by rw [e]; exact h.2 c a b⟩
theorem zScn_V {G : zG} {h sl : Nat} (hsl : 1 ≤ sl) {t l n k prev : Int} {pv : Bool} {L : Int → Int} {M : zM} (ht : zK t = (8, 0)) (hl : zK l = (4, 0)) (e8 : M t 8 = l) (e9 : pv = true → M t 9 = prev) (hk : k ≤ n) (hn : n ≤ 8) (hL : zLv n L M l) : zScn G h sl false t (zokT k pv) (zEn L prev) M := by
  refine ⟨fun v Q h1 h2 hv q => Or.inl ⟨ht, ?_⟩, fun v a Q h1 h2 hv _ _ => ?_⟩
  · rw [zokT_ok] at hv
    rcases hv with rfl | ⟨rfl, hh⟩ | ⟨h3, h4⟩
    · refine E_Tablet_told hsl ⟨fun c => absurd rfl c, fun _ => ⟨ht, by rw [e8]; exact hl, ?_⟩⟩
      rw [e8, hL.1]
      simpa [zEn] using q
    · refine E_Tablet_told hsl ⟨fun _ => ⟨fun c => absurd rfl c, fun _ => ⟨ht, ?_⟩⟩, fun c => absurd (by decide) c⟩
      rw [e9 hh]
      simpa [zEn] using q
    · have e : zix false v = v - 48 := by unfold zix; rw [if_pos h3]
      rw [e]
      refine E_Tablet_told hsl ⟨fun _ => ⟨fun _ => ⟨fun c => absurd c (by omega), fun _ => ⟨fun c => absurd c (by omega), fun _ => ⟨ht, by rw [e8]; exact hl, ⟨by omega, by omega⟩, ?_⟩⟩⟩, fun c => absurd (by omega) c⟩, fun c => absurd (by omega) c⟩
      rw [e8, hL.2 (v - 48) (by omega) (by omega)]
      simp only [zEn] at q
      rw [if_neg (by omega), if_neg (by omega), show v - 40 - 8 = v - 48 from by omega] at q
      exact q
  · rw [zokT_ok] at hv
    exact absurd hv (by omega)
theorem c_runV {G : zG} {h sl : Nat} (hsl : 1 ≤ sl) {T : zTb} {t l c n k prev : Int} {pv ty : Bool} {L : Int → Int} {M : zM} {Q : Int → zM → Prop} (ht : zK t = (8, 0)) (hlt : l + 1 < t) (hk : zK l = (4, 0)) (hT : ∀ c, 0 ≤ c → c < n → zTok1 T c) (hn : n ≤ 8) (hkn : k ≤ n) (hz : zty (zokT k pv) (T.2 c) [] = some [ty]) {f e : Int} (hc : zTcC T M t c f e) (hm : M (t + 2) 2 ≤ 1600) (hL : zLok T n L) (hl : zLv n L M l) (h8 : M t 8 = l) (h9 : pv = true → M t 9 = prev) (hp : pv = true → -1000000 ≤ prev ∧ prev ≤ 1000000) (q : ∀ M', zSm (fun a _ => a = t + 4) M M' → Q (zval (zEn L prev) (T.2 c)) M') : zCt G (h + 2) sl 0 0 y_Code_run [(2, t + 2), (0, f), (0, e), (2, t)] M Q := by
  have hco := (zs_8 ht).2.2
  obtain ⟨c1, c2, c3, c4⟩ := hc
  have e4 : t + 2 + 2 = t + 4 := by omega
  have e3 : t + 2 + 1 = t + 3 := by omega
  refine c_run hsl (q := false) hco (zEn_ok (k := k) (pv := pv) hT hL hkn hp) (fun v a b hv => ?_) (fun M' hM' => ?_) c3 hm c1 c2 (by rw [e3]; exact c4) hz (fun M' hM' => q M' (by rw [e4] at hM'; exact hM'))
  · rw [zokT_ok] at hv
    unfold zix
    split
    · omega
    · rw [if_neg (by decide)]
      split <;> omega
  · rw [e4] at hM'
    refine zScn_V hsl ht hk (l := l) (by rw [hM' _ _ (by omega)]; exact h8) (fun g => by rw [hM' _ _ (by omega)]; exact h9 g) hkn hn (hl.fr (hM' _ _ (by omega)) (fun j => hM' _ _ (by omega)))
theorem c_isMarkedV {G : zG} {h sl : Nat} (hsl : 1 ≤ sl) {T : zTb} {t l : Int} {L : Int → Int} {M : zM} {Q : Int → zM → Prop} (ht : zK t = (8, 0)) (hlt : l + 1 < t) (hk : zK l = (4, 0)) (hT : zTok T) (hL : zLok T (T.1 8 0) L) (hm : zTc T M t) (hl : zLv (T.1 8 0) L M l) (q : ∀ M', zSm (fun a k => a = t ∧ k = 8 ∨ a = t + 4) M M' → Q (zmk T L) M') : zCt G (h + 3) sl 0 0 y_Tablet_isMarked [(2, t), (2, l)] M Q := by
  have hM1 : zSm (fun a k => a = t ∧ k = 8 ∨ a = t + 4) M (zwr M t 8 l) := (zSm.refl _ M).wr (Or.inl ⟨rfl, rfl⟩)
  have el : ∀ a k, a < t → (zwr M t 8 l) a k = M a k := fun a k ha => zwr_o _ (by omega)
  have hm1 : zTc T (zwr M t 8 l) t := hm.fr hlt (hM1.mono (fun a k p => by unfold zPC zPLn; omega))
  have hz := hT.2.2.2.2.2.2.1
  unfold zmk at q
  refine E_Tablet_isMarked hsl ⟨ht, fun g => ?_, fun g => ?_⟩
  · rw [hm1.1.2.2.2.1] at g
    rw [if_neg (by omega)] at q
    exact q _ hM1
  · rw [hm1.1.2.2.2.1] at g
    have h1 : T.1 8 3 = 1 := by omega
    have hz1 : zty (zokT (T.1 8 0) false) (T.2 8) [] = some [true] := by
      rcases hz with hz | hz
      · omega
      · exact hz.2
    rw [if_pos h1] at q
    refine c_runV (h := h) (T := T) (c := 8) (k := T.1 8 0) (n := T.1 8 0) (prev := 0) (pv := false) (L := L) hsl ht hlt hk hT.2.2.2.2.2.2.2 hT.2.1 (by omega) hz1 (hm1.2.2 h1) hm1.1.2.2.2.2 hL (hl.fr (el _ _ (by omega)) (fun j => el _ _ (by omega))) (zwr_s _ _ _ _) (fun c => by cases c) (fun c => by cases c) (fun M' hM' => ?_)
    have := q M' (hM1.trans (hM'.mono (fun _ _ p => Or.inr p)))
    refine ⟨fun c => ?_, fun c => ?_⟩
    · rw [if_neg c] at this; exact this
    · rw [if_pos (by omega)] at this; exact this
theorem c_marksL {G : zG} {h sl : Nat} (hsl : 1 ≤ sl) {T : zTb} {L : Int → Int} {t w : Int} {n m : Nat} {M0 : zM} {Q : Int → zM → Prop} (hP : zPu T L) (hnm : n < m) (hn2 : n ≤ 200) (h9 : L 0 + n ≤ 999) (w0 : 0 ≤ w) (w2 : w ≤ 2)
    (q : ∀ M', zSm (zPq t) M0 M' → zCk T L t M' → Q (if w = 0 then (zmkr (fun k => zmk T (zln T L k)) n).1 else if w = 1 then (zmkr (fun k => zmk T (zln T L k)) n).2.1 else (zmkr (fun k => zmk T (zln T L k)) n).2.2.2) M') :
    ∀ (d k : Nat) (x : Int × Int × Int × Int) {M : zM} {u : Nat × Nat × Nat × Nat}, d + k = n → zSm (zPq t) M0 M → zCk T L t M → zCo T L m M 13 t → x = zmkr (fun k => zmk T (zln T L k)) k → zX G (y_Zt_marks, h + 3 + 1, sl) u 45 [(0, (2, 1)), (1, (0, (n : Int))), (2, (0, w)), (3, (0, x.1)), (4, (0, x.2.1)), (5, (0, x.2.2.1)), (6, (0, x.2.2.2)), (7, (0, (k : Int) + 1))] [] M Q
  | 0, k, x, M, u, e, hM, hC, hc, ex => by
    have : k = n := by omega
    subst this
    have q := q M hM hC
    rw [← ex] at q
    refine B_Zt_marks_45 hsl ⟨fun _ => ⟨fun g => ⟨fun g2 => ?_, fun g2 => ?_⟩, fun g => ?_⟩, fun g => absurd (by omega) g⟩
    · rw [if_neg g, if_neg g2] at q; exact q
    · rw [if_neg g, if_pos (by omega)] at q; exact q
    · rw [if_pos (by omega)] at q; exact q
  | d + 1, k, x, M, u, e, hM, hC, hc, ex => by
    have hb := zmkr_in (fun k => zmk T (zln T L k)) k
    rw [← ex] at hb
    have h0 := hP.2.1.1
    have ht := hC.1
    have hln := zln_ok hP.1 hP.2.1 (k + 1) (by omega)
    refine B_Zt_marks_45 hsl ⟨fun g => absurd g (by omega), fun _ => ?_⟩
    rw [hC.l0]
    refine ⟨by unfold zI; omega, ?_⟩
    have tsh : ∀ Q' : Int → zM → Prop, (∀ M', zSm (fun a j => a = 7 ∨ a = 6 ∧ j = 1) M M' → M' 6 1 = L 0 + ((k : Int) + 1) → (∀ c : Int, 0 ≤ c → c < T.1 8 0 → M' 7 c = zln T L (k + 1) (1 + c)) → Q' 0 M') → zCt G (h + 3) sl 0 0 y_Course_show [(2, 13), (0, (k : Int) + 1), (0, L 0 + ((k : Int) + 1)), (2, 6)] M Q' := fun Q' qq => by
      have : zCt G (h + 3) sl 0 0 y_Course_show [(2, 13), (0, ((k + 1 : Nat) : Int)), (0, (L 0 + ((k : Int) + 1))), (2, 6)] M Q' := c_show (h := h + 2) hsl (Or.inr rfl) (by decide : zK 6 = (4, 0)) (Or.inl (by decide)) hP.1 hc (by omega : k + 1 < m) qq
      rw [zcs] at this
      exact this
    refine tsh _ (fun M1 hM1 e1 hv1 => ?_)
    have hs1 : zSm (zPq t) M M1 := hM1.mono (fun a k p => by unfold zPq; omega)
    have hC1 : zCk T L t M1 := hC.fr hP.1 (fun a j p => hM1 a j (by unfold zdCk at p; omega))
    have hc1 : zCo T L m M1 13 t := hc.fr (fun a j p => hM1 a j (by unfold zdCo at p; omega))
    refine ⟨hC1.k8, ?_⟩
    rw [hC1.2.1]
    refine c_isMarkedV hsl hC1.kt (by omega) (by decide) hP.1 hln.2 hC1.2.2.1 ⟨by rw [e1, hln.1]; omega, hv1⟩ (fun M2 hM2 => ?_)
    have hs2 : zSm (zPq t) M1 M2 := hM2.mono (fun a k p => by unfold zPq; omega)
    have hC2 : zCk T L t M2 := hC1.fr hP.1 (fun a j p => hM2 a j (by unfold zdCk at p; omega))
    have hc2 : zCo T L m M2 13 t := hc1.fr (fun a j p => hM2 a j (by unfold zdCo at p; omega))
    have go := fun x' (e' : x' = zmkr (fun k => zmk T (zln T L k)) (k + 1)) => c_marksL (G := G) (h := h) (Q := Q) hsl hP hnm hn2 h9 w0 w2 q d (k + 1) x' (M := M2) (u := u) (by omega) (hM.trans (hs1.trans hs2)) hC2 hc2 e'
    rw [zcs] at go
    refine ⟨fun g => ⟨by unfold zI; omega, ?_⟩, fun g => ?_⟩
    · have e0 : ¬ (fun k => zmk T (zln T L k)) (k + 1) = 1 := by simp only; omega
      have h0 := zmkr_0 (p := fun k => zmk T (zln T L k)) (k := k) e0
      rw [← ex] at h0
      refine E_Jm_max_III hsl ⟨fun g2 => ⟨by unfold zI; omega, go (x.1, x.2.1, x.2.2.1 + 1, x.2.2.1 + 1) ?_⟩, fun g2 => ⟨by unfold zI; omega, go (x.1, x.2.1, x.2.2.1 + 1, x.2.2.2) ?_⟩⟩
      · rw [h0]; split
        · rw [show x.2.2.1 + 1 = x.2.2.2 from by omega]
        · rfl
      · rw [h0, if_pos (by omega)]
    · have e1 : (fun k => zmk T (zln T L k)) (k + 1) = 1 := by
        rcases zmk_01 T (zln T L (k + 1)) with y | y
        · exact absurd y g
        · exact y
      have h1 := zmkr_1 (p := fun k => zmk T (zln T L k)) (k := k) e1
      rw [← ex] at h1
      refine ⟨fun g3 => ⟨by unfold zI; omega, by unfold zI; omega, go (x.1 + 1, x.2.1, 0, x.2.2.2) ?_⟩, fun g3 => ⟨by unfold zI; omega, by unfold zI; omega, go (x.1 + 1, (k : Int) + 1, 0, x.2.2.2) ?_⟩⟩
      · rw [h1, if_neg g3]
      · rw [h1, if_pos (by omega)]
theorem c_marks {G : zG} {h sl : Nat} (hsl : 1 ≤ sl) {T : zTb} {L : Int → Int} {t n w : Int} {M : zM} {Q : Int → zM → Prop} (hP : zPu T L) (hC : zCk T L t M) (q : ∀ M', zSm (zPq t) M M' → zCk T L t M' → Q (zmrs T L n w) M') : zCt G (h + 6) sl 0 0 y_Zt_marks [(2, 1), (0, n), (0, w)] M Q := by
  have q0 := q M (zSm.refl _ _) hC
  unfold zmrs at q q0
  refine E_Zt_marks hsl (c_isAheadC hsl hP hC (fun a1 b1 d1 => ⟨fun g => absurd g (by decide), fun _ => ⟨fun g => ?_, fun g => ⟨fun g2 => ?_, fun g2 => ?_⟩⟩⟩) (fun g => ⟨fun _ => ?_, fun g2 => absurd rfl g2⟩))
  · rw [if_neg (by omega)] at q0; exact q0
  · obtain ⟨k, rfl⟩ : ∃ k : Nat, n = k := ⟨n.toNat, by omega⟩
    refine c_reachA hsl hP hC (by omega) (fun M' m hM hC' hm hc => ?_)
    refine c_marksL (h := h + 2) (M0 := M') (t := t) hsl hP hm (by omega) d1 (by omega) g2 (fun M2 hM2 hC2 => ?_) k 0 _ (by omega) (zSm.refl _ _) hC' hc rfl
    have qq := q M2 ((zPR_q13 hM).trans hM2) hC2
    rw [if_pos ⟨⟨a1, b1, d1⟩, by omega, g2⟩, show ((k : Int)).toNat = k from by omega] at qq
    exact qq
  · rw [if_neg (by omega)] at q0; exact q0
  · rw [if_neg (by omega)] at q0; exact q0
