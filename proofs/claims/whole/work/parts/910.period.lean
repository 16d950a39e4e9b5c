/-! Periods: both sides. -/
def zit (T : zTb) (c : Int) (L : Int → Int) : Nat → Int → Int
  | 0 => L
  | k + 1 => zmv T (zit T c L k) c
theorem zit_ok {T : zTb} {L : Int → Int} {c : Int} (hP : zPu T L) (c0 : 0 ≤ c) (cn : c < T.1 8 0) : ∀ k, zLok T (T.1 8 0) (zit T c L k)
  | 0 => hP.2.1
  | k + 1 => zmv_ok hP.1.2.2.2.2.2.2.2 hP.1.2.1 (zit_ok hP c0 cn k) c0 cn
def zpp (T : zTb) (L : Int → Int) (c : Int) (k : Nat) : Bool := decide (zit T c L k (1 + c) = L (1 + c) ∧ zit T c L k (9 + c) = L (9 + c))
def zper (T : zTb) (L : Int → Int) (c : Int) : Int := if (0 ≤ c ∧ c < T.1 8 0) ∧ T.1 c 0 ≤ 1 then zfst (zpp T L c) 999 1 else -1
theorem c_periodL {G : zG} {h sl : Nat} (hsl : 1 ≤ sl) {T : zTb} {L : Int → Int} {t c : Int} {M0 : zM} {Q : Int → zM → Prop} (hP : zPu T L) (c0 : 0 ≤ c) (cn : c < T.1 8 0) :
    ∀ (d k : Nat) {M : zM} {u : Nat × Nat × Nat × Nat}, d + k = 999 → zSm (zPq t) M0 M → zCk T L t M → zLc (T.1 8 0) (zit T c L k) M 6 → (∀ M', zSm (zPq t) M0 M' → zCk T L t M' → Q (zfst (zpp T L c) d (k + 1)) M') → zX G (y_Zt_period, h + 3 + 1, sl) u 39 [(0, (2, 1)), (1, (0, c)), (2, (0, (k : Int) + 1))] [] M Q
  | 0, k, M, u, e, hM, hC, hl, q => B_Zt_period_39 hsl ⟨fun _ => q M hM hC, fun g => absurd (by omega) g⟩
  | d + 1, k, M, u, e, hM, hC, hl, q => by
    have ht := hC.1
    have h8 := hP.1.2.1
    have ho := hC.c1 c0 cn
    have hok := hP.1.2.2.2.2.2.2.2 c c0 cn
    refine B_Zt_period_39 hsl ⟨fun g => absurd g (by omega), fun _ => ⟨hC.k8, ⟨c0, by omega⟩, ?_⟩⟩
    rw [hC.2.1, ho.1.2.2.2.2.2.1]
    refine c_move hsl hC.kt (by omega) (by decide) hP.1.2.2.2.2.2.2.2 (zit_ok hP c0 cn k) c0 cn h8 (fun hs => by unfold zTok1 at hok; omega) ho hC.2.2.1.1.2.2.2.2 hl (fun M1 hM1 hl1 => ?_)
    rw [zmvd_own] at hl1
    have hl1 : zLc (T.1 8 0) (zit T c L (k + 1)) M1 6 := hl1
    have hs1 : zSm (zPq t) M M1 := hM1.mono (fun a k p => by unfold zPC zPLn at p; unfold zPq; omega)
    have hC1 : zCk T L t M1 := hC.fr hP.1 (fun a j p => hM1 a j (by unfold zdCk at p; unfold zPC zPLn; omega))
    have next : ¬ zpp T L c (k + 1) = true → zI ((k : Int) + 1 + 1) ∧ zX G (y_Zt_period, h + 3 + 1, sl) u 39 [(0, (2, 1)), (1, (0, c)), (2, (0, (k : Int) + 1 + 1))] [] M1 Q := fun g => by
      refine ⟨by unfold zI; omega, ?_⟩
      have := c_periodL (G := G) (h := h) (Q := Q) hsl hP c0 cn d (k + 1) (M := M1) (u := u) (by omega) (hM.trans hs1) hC1 hl1 (fun M' a b => by
        have := q M' a b
        unfold zfst at this
        rw [if_neg g] at this
        exact this)
      rw [zcs] at this
      exact this
    have e7 : M1 7 c = zit T c L (k + 1) (1 + c) := (hl1.2.2 c c0 cn).1
    have e5 : M1 5 c = L (1 + c) := (hC1.2.2.2.1.2.2 c c0 cn).1
    rw [e7, e5]
    refine ⟨fun g => next (by unfold zpp; simp [g]), fun g => c_goesUp hsl (by decide) hl1.2.1 c0 (by omega) (c_goesUp hsl (by decide) hC1.2.2.2.1.2.1 c0 (by omega) ?_)⟩
    rw [(hl1.2.2 c c0 cn).2, (hC1.2.2.2.1.2.2 c c0 cn).2]
    refine ⟨fun g2 => next (by unfold zpp; simp [g2]), fun g2 => ?_⟩
    have := q M1 (hM.trans hs1) hC1
    unfold zfst at this
    rw [if_pos (by unfold zpp; simp; omega), zcs] at this
    exact this
theorem c_period {G : zG} {h sl : Nat} (hsl : 1 ≤ sl) {T : zTb} {L : Int → Int} {t c : Int} {M : zM} {Q : Int → zM → Prop} (hP : zPu T L) (hC : zCk T L t M) (q : ∀ M', zSm (zPq t) M M' → zCk T L t M' → Q (zper T L c) M') : zCt G (h + 6) sl 0 0 y_Zt_period [(2, 1), (0, c)] M Q := by
  have q0 := q M (zSm.refl _ _) hC
  have ht := hC.1
  have h8 := hP.1.2.1
  unfold zper at q q0
  refine E_Zt_period hsl (c_isColC hsl hC (fun a b => ⟨fun g => absurd g (by decide), fun _ => ⟨hC.k8, ⟨a, by omega⟩, ?_⟩⟩) (fun g => ⟨fun _ => ?_, fun g2 => absurd rfl g2⟩))
  · rw [hC.2.1, (hC.c1 a b).1.1]
    refine ⟨fun g => c_copy hsl (by decide) (by decide) (by decide) (by decide) (by decide) h8 hC.2.2.2.1 (fun M1 hM1 hl1 => ?_), fun g => ?_⟩
    · have hs1 : zSm (zPq t) M M1 := hM1.mono (fun a k p => by unfold zPLn at p; unfold zPq; omega)
      have hC1 : zCk T L t M1 := hC.fr hP.1 (fun a j p => hM1 a j (by unfold zdCk at p; unfold zPLn; omega))
      exact c_periodL (h := h + 2) (M0 := M1) (t := t) hsl hP a b 999 0 rfl (zSm.refl _ _) hC1 hl1 (fun M' hM' hC' => by
        have := q M' (hs1.trans hM') hC'
        rw [if_pos ⟨⟨a, b⟩, g⟩] at this
        exact this)
    · rw [if_neg (by omega)] at q0; exact q0
  · rw [if_neg (by omega)] at q0; exact q0
/-- aside, and back again: the line stands as it was -/
theorem m_backed {T : zTb} {L : Int → Int} {M M1 M2 M3 : zM} (hT : zTok T) (hC : zMk T L M) (hM1 : zSm (fun a k => a = 167 ∨ a = 125 ∧ k = 57) M M1) (r1 : ∀ j : Int, 0 ≤ j → j < 17 → M1 167 j = M 164 j) (hM2 : zSm zPG M1 M2)
    (hM3 : zSm (fun a k => a = 164 ∧ 0 ≤ k ∧ k < 17 ∨ a = 125 ∧ k = 57) M2 M3) (r3 : ∀ j : Int, 0 ≤ j → j < 17 → M3 164 j = M2 167 j) : zSm zPB M M3 ∧ zMk T L M3 := by
  have hs : zSm zPB M M3 := fun a k n => by
    by_cases c : a = 164 ∧ 0 ≤ k ∧ k < 17
    · obtain ⟨rfl, c0, c1⟩ := c
      rw [r3 k c0 c1, hM2 _ _ (by unfold zPG; omega), r1 k c0 c1]
    · unfold zPB at n
      rw [hM3 a k (by omega), hM2 a k (by unfold zPG; omega), hM1 a k (by omega)]
  exact ⟨hs, hC.frB hT hs⟩
theorem m_periodL {G : zG} {h sl : Nat} (hsl : 2 ≤ sl) {T : zTb} {L : Int → Int} {c : Int} {M0 : zM} {Q : Int → zM → Prop} (hP : zPu T L) (c0 : 0 ≤ c) (cn : c < T.1 8 0) :
    ∀ (d k : Nat) {M : zM} {u : Nat × Nat × Nat × Nat}, d + k = 999 → zSm zPG M0 M → zTm T M → zLm (T.1 8 0) (zit T c L k) M → (∀ M' u', zSm zPG M0 M' → zX G (y_Md_period, h + 4 + 1, sl) u' 97 [(0, (2, 125)), (4, (0, zfst (zpp T L c) d (k + 1)))] [] M' Q) → zX G (y_Md_period, h + 4 + 1, sl) u 46 [(0, (2, 125)), (1, (0, c)), (2, (0, L (1 + c))), (3, (0, L (9 + c))), (4, (0, -1)), (5, (0, (k : Int) + 1))] [] M Q
  | 0, k, M, u, e, hM, hm, hl, q => B_Md_period_46 hsl ⟨fun _ => q M u hM, fun g => absurd (by omega) g⟩
  | d + 1, k, M, u, e, hM, hm, hl, q => by
    have h8 := hP.1.2.1
    refine B_Md_period_46 hsl ⟨fun g => absurd g (by omega), fun _ => ⟨fun g => absurd rfl g, fun _ => ?_⟩⟩
    refine c_goesOn hsl hP.1.2.2.2.2.2.2.2 (zit_ok hP c0 cn k) c0 cn h8 (hm.2.2.2.1 c c0 cn) hl (fun M1 hM1 hl1 => ?_)
    have hl1 : zLm (T.1 8 0) (zit T c L (k + 1)) M1 := hl1
    have hm1 := hm.fr hM1
    have next : ¬ zpp T L c (k + 1) = true → zI ((k : Int) + 1 + 1) ∧ zX G (y_Md_period, h + 4 + 1, sl) u 46 [(0, (2, 125)), (1, (0, c)), (2, (0, L (1 + c))), (3, (0, L (9 + c))), (4, (0, -1)), (5, (0, (k : Int) + 1 + 1))] [] M1 Q := fun g => by
      refine ⟨by unfold zI; omega, ?_⟩
      have := m_periodL (G := G) (h := h) (Q := Q) hsl hP c0 cn d (k + 1) (M := M1) (u := u) (by omega) (hM.trans hM1) hm1 hl1 (fun M' u' a => by
        have := q M' u' a
        unfold zfst at this
        rw [if_neg g] at this
        exact this)
      rw [zcs] at this
      exact this
    refine c_valueOf hsl c0 (by omega) ?_
    rw [(hl1.2 c c0 cn).1]
    refine ⟨fun g => next (by unfold zpp; simp [g]), fun g => ⟨by unfold zI; omega, by omega, ?_⟩⟩
    rw [(hl1.2 c c0 cn).2]
    refine ⟨fun g2 => next (by unfold zpp; simp [g2]), fun g2 => ⟨by unfold zI; omega, ?_⟩⟩
    have hq := q M1 u (hM.trans hM1)
    unfold zfst at hq
    rw [if_pos (by unfold zpp; simp; omega), zcs] at hq
    by_cases c9 : 999 < (k : Int) + 1 + 1
    · exact B_Md_period_46 hsl ⟨fun _ => hq, fun g => absurd c9 g⟩
    · exact B_Md_period_46 hsl ⟨fun g => absurd g c9, fun _ => ⟨fun _ => hq, fun g => absurd (by omega) g⟩⟩
theorem m_period {G : zG} {h sl : Nat} (hsl : 2 ≤ sl) {T : zTb} {L : Int → Int} {c : Int} {M : zM} {Q : Int → zM → Prop} (hP : zPu T L) (hC : zMk T L M) (q : ∀ M', zSm zPB M M' → zMk T L M' → Q (zper T L c) M') : zCt G (h + 7) sl 0 0 y_Md_period [(2, 125), (0, c)] M Q := by
  have q0 := q M (zSm.refl _ _) hC
  have h8 := hP.1.2.1
  unfold zper at q q0
  refine E_Md_period hsl (c_isColM hsl hP.1 hC.1 (fun a b => ⟨fun g => absurd g (by decide), fun _ => c_sortOf hsl a (by omega) ?_⟩) (fun g => ⟨fun _ => ?_, fun g2 => absurd rfl g2⟩))
  · rw [(hC.1.2.2.2.1 c a b).1]
    refine ⟨fun g => c_valueOf hsl a (by omega) ⟨by unfold zI; omega, by omega, c_putsAside hsl (fun M1 hM1 r1 => ?_)⟩, fun g => ?_⟩
    · rw [(hC.2.1.2 c a b).1, (hC.2.1.2 c a b).2]
      have hm1 : zTm T M1 := hC.1.frG (fun a k p => hM1 a k (by unfold zdMk at p; omega))
      refine m_periodL (h := h + 2) (M0 := M1) hsl hP a b 999 0 rfl (zSm.refl _ _) hm1 (hC.2.1.fr (fun k => hM1 164 k (by omega))) (fun M2 u' hM2 => B_Md_period_97 hsl (c_takesBack hsl (fun M3 hM3 r3 => ?_)))
      have hb := m_backed hP.1 hC hM1 r1 hM2 hM3 r3
      have := q M3 hb.1 hb.2
      rw [if_pos ⟨⟨a, b⟩, g⟩] at this
      exact this
    · rw [if_neg (by omega)] at q0; exact q0
  · rw [if_neg (by omega)] at q0; exact q0
