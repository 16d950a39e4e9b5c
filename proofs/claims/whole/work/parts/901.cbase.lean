/-! THE CLASS: its clock and lines (zCk), what asks about them. -/
def zAr (M : zM) (o n : Int) (f : Int → Int) : Prop := ∀ k, 0 ≤ k → k < n → M o k = f k
theorem zAr.fr {M M' : zM} {o n : Int} {f : Int → Int} (e : ∀ k, M' o k = M o k) (h : zAr M o n f) : zAr M' o n f := fun k a b => by rw [e]; exact h k a b
def zdCo (o : Int) : Int → Int → Prop := fun a k => a = o ∧ (k = 3 ∨ k = 4) ∨ o + 1 ≤ a ∧ a ≤ o + 4
theorem zCo.fr {T : zTb} {A : Int → Int} {m : Nat} {M M' : zM} {o t : Int} (e : ∀ a k, zdCo o a k → M' a k = M a k) (h : zCo T A m M o t) : zCo T A m M' o t := by
  obtain ⟨a1, a2, a3, a4, a5, a6⟩ := h
  refine ⟨by rw [e _ _ (by unfold zdCo; omega)]; exact a1, by rw [e _ _ (by unfold zdCo; omega)]; exact a2, a3, a4, a5.fr (e _ _ (by unfold zdCo; omega)) (e _ _ (by unfold zdCo; omega)) (fun j => e _ _ (by unfold zdCo; omega)), fun i hi => ?_⟩
  rw [e _ _ (by unfold zdCo; omega)]
  exact ⟨(a6 i hi).1, fun c c0 cn => by rw [e _ _ (by unfold zdCo; omega)]; exact (a6 i hi).2 c c0 cn⟩
/-- a tablet well told, a line of it -/
def zPu (T : zTb) (L : Int → Int) : Prop := zTok T ∧ zLok T (T.1 8 0) L ∧ L 0 ≤ 999
/-- the class's clock is the tablet at t, its line, what is true, what is ahead -/
def zCk (T : zTb) (L : Int → Int) (t : Int) (M : zM) : Prop :=
  (t = 79 ∨ t = 102) ∧ M 1 11 = t ∧ zTc T M t ∧ zLc (T.1 8 0) L M 4 ∧ (∃ m : Nat, L 0 < m ∧ zCo T (zbg T) m M 8 t) ∧ ∃ m : Nat, zCo T L m M 13 t
def zdCk (t : Int) : Int → Int → Prop := fun a k => a = 1 ∧ k = 11 ∨ a = 4 ∨ a = 5 ∨ 8 ≤ a ∧ a ≤ 17 ∨ t ≤ a ∧ a ≤ t + 22 ∧ ¬ (a = t ∧ (k = 8 ∨ k = 9)) ∧ a ≠ t + 4
theorem zCk.fr {T : zTb} {L : Int → Int} {t : Int} {M M' : zM} (hT : zTok T) (e : ∀ a k, zdCk t a k → M' a k = M a k) (h : zCk T L t M) : zCk T L t M' := by
  obtain ⟨a1, a2, a3, a4, ⟨m, a5, a6⟩, ⟨m', a7⟩⟩ := h
  exact ⟨a1, by rw [e _ _ (by unfold zdCk; omega)]; exact a2, a3.frG hT (fun a k h1 h2 h3 h4 => e a k (by unfold zdCk; omega)), a4.fr (e _ _ (by unfold zdCk; omega)) (e _ _ (by unfold zdCk; omega)) (fun j => e _ _ (by unfold zdCk; omega)), ⟨m, a5, a6.fr (fun a k p => e a k (by unfold zdCo at p; unfold zdCk; omega))⟩, ⟨m', a7.fr (fun a k p => e a k (by unfold zdCo at p; unfold zdCk; omega))⟩⟩
theorem zCk.k8 {T : zTb} {L : Int → Int} {t : Int} {M : zM} (h : zCk T L t M) : zK (M 1 11) = (8, 0) := by
  rw [h.2.1]
  rcases h.1 with rfl | rfl <;> decide
theorem zCk.kt {T : zTb} {L : Int → Int} {t : Int} {M : zM} (h : zCk T L t M) : zK t = (8, 0) := by
  rcases h.1 with rfl | rfl <;> decide
theorem zCk.n {T : zTb} {L : Int → Int} {t : Int} {M : zM} (h : zCk T L t M) : M (M 1 11) 2 = T.1 8 0 := by rw [h.2.1]; exact h.2.2.1.1.1
theorem zCk.l0 {T : zTb} {L : Int → Int} {t : Int} {M : zM} (h : zCk T L t M) : M 4 1 = L 0 := h.2.2.2.1.1
theorem zCk.c1 {T : zTb} {L : Int → Int} {t : Int} {M : zM} (h : zCk T L t M) {c : Int} (c0 : 0 ≤ c) (cn : c < T.1 8 0) : zTc1 T M t c := h.2.2.1.2.1 c c0 cn
/-- what questions of it may change -/
def zPq (t : Int) : Int → Int → Prop := fun a k => a = t ∧ (k = 8 ∨ k = 9) ∨ a = t + 4 ∨ a = 6 ∧ (k = 1 ∨ k = 2) ∨ a = 7 ∨ 8 ≤ a ∧ a ≤ 17
theorem c_isColC {G : zG} {h sl : Nat} (hsl : 1 ≤ sl) {T : zTb} {L : Int → Int} {t c : Int} {M : zM} {Q : Int → zM → Prop} (hC : zCk T L t M) (q1 : 0 ≤ c → c < T.1 8 0 → Q 1 M) (q0 : ¬ (0 ≤ c ∧ c < T.1 8 0) → Q 0 M) : zCt G h sl 0 0 y_Zt_isColumn [(2, 1), (0, c)] M Q := by
  refine E_Zt_isColumn hsl ⟨fun g => q0 (by omega), fun g => ⟨hC.k8, fun g2 => ?_, fun g2 => ?_⟩⟩
  · rw [hC.n] at g2; exact q0 (by omega)
  · rw [hC.n] at g2; exact q1 (by omega) (by omega)
theorem c_isAheadC {G : zG} {h sl : Nat} (hsl : 1 ≤ sl) {T : zTb} {L : Int → Int} {t n lo hi : Int} {M : zM} {Q : Int → zM → Prop} (hP : zPu T L) (hC : zCk T L t M) (q1 : lo ≤ n → n ≤ hi → L 0 + n ≤ 999 → Q 1 M) (q0 : ¬ (lo ≤ n ∧ n ≤ hi ∧ L 0 + n ≤ 999) → Q 0 M) : zCt G h sl 0 0 y_Zt_isAhead [(2, 1), (0, n), (0, lo), (0, hi)] M Q := by
  have h0 := hP.2.1.1
  have h9 := hP.2.2
  refine E_Zt_isAhead hsl ⟨fun g => q0 (by omega), fun g => ⟨fun g2 => q0 (by omega), fun g2 => ?_⟩⟩
  rw [hC.l0]
  exact ⟨by unfold zI; omega, fun g3 => q0 (by omega), fun g3 => q1 (by omega) (by omega) (by omega)⟩
theorem c_mostAhead {G : zG} {h sl : Nat} (hsl : 1 ≤ sl) {T : zTb} {L : Int → Int} {t : Int} {M : zM} {Q : Int → zM → Prop} (hP : zPu T L) (hC : zCk T L t M) (q : Q ((zam L : Nat) - 1 : Int) M) : zCt G (h + 1) sl 0 0 y_Zt_mostAhead [(2, 1)] M Q := by
  have h0 := hP.2.1.1
  have h9 := hP.2.2
  have hz : (zam L : Int) - 1 = if 200 < 999 - L 0 then 200 else 999 - L 0 := by unfold zam; split <;> omega
  rw [hz] at q
  refine E_Zt_mostAhead hsl ?_
  rw [hC.l0]
  refine ⟨by unfold zI; omega, E_Jm_min_III hsl ⟨fun g => ?_, fun g => ?_⟩⟩
  · rw [if_neg (by omega)] at q; exact q
  · split at q
    · exact q
    · rw [show (200 : Int) = 999 - L 0 from by omega]; exact q
theorem c_reachA {G : zG} {h sl : Nat} (hsl : 1 ≤ sl) {T : zTb} {L : Int → Int} {t : Int} {n : Nat} {M : zM} {Q : Int → zM → Prop} (hP : zPu T L) (hC : zCk T L t M) (hn : n ≤ 200) (q : ∀ M' m, zSm (zPR 13 t) M M' → zCk T L t M' → n < m → zCo T L m M' 13 t → Q 0 M') : zCt G (h + 5) sl 0 0 y_Course_reach [(2, 13), (0, (n : Int))] M Q := by
  have hC0 := hC
  obtain ⟨a1, a2, a3, a4, ⟨m, a5, a6⟩, ⟨m', a7⟩⟩ := hC
  have h9 := hP.2.2
  have e : (zK (13 + 4)).2 = 201 := by decide
  refine c_reach hsl (Or.inr rfl) hC0.kt (by omega) hP.1 hP.2.1 (by omega) (by rw [e]; omega) a3 a7 (fun M' m hm hM hc => q M' m hM ?_ hm hc)
  have f : ∀ a k, a = 1 ∨ a = 4 ∨ a = 5 ∨ 8 ≤ a ∧ a ≤ 12 → M' a k = M a k := fun a k p => hM a k (by unfold zPR zPC zPLn zPO; omega)
  exact ⟨a1, by rw [f _ _ (by omega)]; exact a2, a3.frG hP.1 (zPR_kp (Or.inr rfl) (by omega) hM), a4.fr (f _ _ (by omega)) (f _ _ (by omega)) (fun j => f _ _ (by omega)), ⟨_, a5, a6.fr (fun a k p => f a k (by unfold zdCo at p; omega))⟩, ⟨m, hc⟩⟩
theorem c_reachT {G : zG} {h sl : Nat} (hsl : 1 ≤ sl) {T : zTb} {L : Int → Int} {t : Int} {n : Nat} {M : zM} {Q : Int → zM → Prop} (hP : zPu T L) (hC : zCk T L t M) (hn : n ≤ 999) (q : ∀ M' m, zSm (zPR 8 t) M M' → zCk T L t M' → n < m → zCo T (zbg T) m M' 8 t → Q 0 M') : zCt G (h + 5) sl 0 0 y_Course_reach [(2, 8), (0, (n : Int))] M Q := by
  have hC0 := hC
  obtain ⟨a1, a2, a3, a4, ⟨m, a5, a6⟩, ⟨m', a7⟩⟩ := hC
  have e : (zK (8 + 4)).2 = 1000 := by decide
  have hb := zbg_ok hP.1
  have hcl := a6.2.1
  refine c_reachG hsl (Or.inl rfl) hC0.kt (by omega) hP.1 hb.2 (by rw [hb.1]; omega) (by rw [e]; omega) a3 a6 (fun M' m2 hm hmm hM hc => q M' m2 hM ?_ hm hc)
  have f : ∀ a k, a = 1 ∨ a = 4 ∨ a = 5 ∨ 13 ≤ a ∧ a ≤ 17 → M' a k = M a k := fun a k p => hM a k (by unfold zPR zPC zPLn zPO; omega)
  exact ⟨a1, by rw [f _ _ (by omega)]; exact a2, a3.frG hP.1 (zPR_kp (Or.inl rfl) (by omega) hM), a4.fr (f _ _ (by omega)) (f _ _ (by omega)) (fun j => f _ _ (by omega)), ⟨m2, by omega, hc⟩, ⟨m', a7.fr (fun a k p => f a k (by unfold zdCo at p; omega))⟩⟩
theorem zPR_q8 {t : Int} {M M' : zM} (h : zSm (zPR 8 t) M M') : zSm (zPq t) M M' := h.mono (fun a k p => by unfold zPR zPC zPLn zPO at p; unfold zPq; omega)
theorem zPR_q13 {t : Int} {M M' : zM} (h : zSm (zPR 13 t) M M') : zSm (zPq t) M M' := h.mono (fun a k p => by unfold zPR zPC zPLn zPO at p; unfold zPq; omega)
