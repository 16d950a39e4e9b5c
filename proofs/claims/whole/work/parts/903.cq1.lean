/-! THE CLASS: what it tells of now (promises 5 - 10, 31, 33). -/
theorem zwg_s1 {L V : Int → Int} {k : Nat} (h : L (1 + k) = V (1 + k)) : zwg L V (k + 1) = zwg L V k := by
  show zwg L V k + _ = _
  rw [if_pos h]
  omega
theorem zwg_s2 {L V : Int → Int} {k : Nat} (h : ¬ L (1 + k) = V (1 + k)) : zwg L V (k + 1) = zwg L V k + 1 := by
  show zwg L V k + _ = _
  rw [if_neg h]
theorem c_untrueL {G : zG} {h sl : Nat} (hsl : 1 ≤ sl) {T : zTb} {L : Int → Int} {t : Int} {M : zM} {Q : Int → zM → Prop} (hP : zPu T L) (hC : zCk T L t M) (q : Q (zwm T L) M) :
    ∀ (d k : Nat) {u : Nat × Nat × Nat × Nat}, d + k = (T.1 8 0).toNat → zX G (y_Zt_untrueColumns, h + 1, sl) u 4 [(0, (2, 1)), (1, (0, zwg L (ztr T (L 0).toNat) k)), (2, (0, (k : Int)))] [] M Q
  | 0, k, u, e => by
    have hn := hP.1.1
    refine B_Zt_untrueColumns_4 hsl ⟨hC.k8, fun _ => ?_, fun g => absurd (by rw [hC.n]; omega) g⟩
    unfold zwm at q
    rw [show (T.1 8 0).toNat = k from by omega] at q
    exact q
  | d + 1, k, u, e => by
    have hn := hP.1.1
    have hn8 := hP.1.2.1
    have h0 := hP.2.1.1
    obtain ⟨m, hm, hc⟩ := hC.2.2.2.2.1
    have hw := zwg_in L (ztr T (L 0).toNat) k
    refine B_Zt_untrueColumns_4 hsl ⟨hC.k8, fun g => absurd g (by rw [hC.n]; omega), fun _ => ⟨by omega, ?_⟩⟩
    rw [hC.l0, show (M 5 (k : Int)) = L (1 + k) from (hC.2.2.2.1.2.2 k (by omega) (by omega)).1]
    have hgo : zCt G h sl 0 0 y_Course_told [(2, 8), (0, (((L 0).toNat : Nat) : Int)), (0, (k : Int))] M (fun r3 M4 => (L (1 + k) = r3 → (zI ((k : Int) + 1)) ∧ (zX G (y_Zt_untrueColumns, h + 1, sl) u 4 [(0, (2, 1)), (1, (0, zwg L (ztr T (L 0).toNat) k)), (2, (0, ((k : Int) + 1)))] [] M4 Q)) ∧ (¬ L (1 + k) = r3 → (zI (zwg L (ztr T (L 0).toNat) k + 1)) ∧ ((zI ((k : Int) + 1)) ∧ (zX G (y_Zt_untrueColumns, h + 1, sl) u 4 [(0, (2, 1)), (1, (0, (zwg L (ztr T (L 0).toNat) k + 1))), (2, (0, ((k : Int) + 1)))] [] M4 Q)))) := by
      refine c_toldC hsl (Or.inl rfl) hP.1 hc (by omega) (by omega) (by omega) ?_
      have ih := c_untrueL (G := G) (h := h) (Q := Q) hsl hP hC q d (k + 1) (u := u) (by omega)
      rw [zcs] at ih
      refine ⟨fun g => ⟨by unfold zI; omega, ?_⟩, fun g => ⟨by unfold zI; omega, by unfold zI; omega, ?_⟩⟩
      · rw [zwg_s1 (V := ztr T (L 0).toNat) g] at ih
        exact ih
      · rw [zwg_s2 (V := ztr T (L 0).toNat) g] at ih
        exact ih
    rw [show (((L 0).toNat : Nat) : Int) = L 0 from by omega] at hgo
    exact hgo
theorem c_untrue {G : zG} {h sl : Nat} (hsl : 1 ≤ sl) {T : zTb} {L : Int → Int} {t : Int} {M : zM} {Q : Int → zM → Prop} (hP : zPu T L) (hC : zCk T L t M) (q : Q (zwm T L) M) : zCt G (h + 1) sl 0 0 y_Zt_untrueColumns [(2, 1)] M Q :=
  E_Zt_untrueColumns hsl (c_untrueL hsl hP hC q (T.1 8 0).toNat 0 (by omega))
/-- what has() answers -/
def zhas (T : zTb) (L : Int → Int) (N rm ac w : Int) : Int := if w = 0 then T.1 8 0 else if w = 1 then L 0 else if w = 2 then zmk T L else if w = 3 then zwm T L else if w = 4 then zkt4 N else if w = 5 then rm else if w = 6 then ac else -1
theorem c_isMarkedN {G : zG} {h sl : Nat} (hsl : 1 ≤ sl) {T : zTb} {L : Int → Int} {t : Int} {M : zM} {Q : Int → zM → Prop} (hP : zPu T L) (hC : zCk T L t M) (q : ∀ M', zSm (zPq t) M M' → (∀ a k, a < t → M' a k = M a k) → zCk T L t M' → Q (zmk T L) M') : zCt G (h + 3) sl 0 0 y_Tablet_isMarked [(2, t), (2, 4)] M Q := by
  have ht := hC.1
  have hs : ∀ M', zSm (zPC t 4) M M' → (∀ a k, a < t → M' a k = M a k) → zSm (fun a k => a = t ∧ (k = 8 ∨ k = 9) ∨ a = t + 4) M M' := fun M' hM e a k n => by
    by_cases c : a < t
    · exact e a k c
    · exact hM a k (by unfold zPC zPLn; omega)
  exact c_isMarkedC hsl hC.kt (by omega) (by decide) hP.1 hP.2.1 hC.2.2.1 hC.2.2.2.1 (fun M' hM e => q M' ((hs M' hM e).mono (fun a k p => by unfold zPq; omega)) e (hC.fr hP.1 (fun a k p => hs M' hM e a k (by unfold zdCk at p; omega))))
theorem c_has {G : zG} {h sl : Nat} (hsl : 1 ≤ sl) {T : zTb} {L : Int → Int} {t N rm ac w : Int} {M : zM} {Q : Int → zM → Prop} (hP : zPu T L) (hC : zCk T L t M) (hN : M 18 4 = N) (hr : M 63 8 = rm) (ha : M 18 6 = ac) (q : ∀ M', zSm (zPq t) M M' → zCk T L t M' → Q (zhas T L N rm ac w) M') : zCt G (h + 4) sl 0 0 y_Zt_has [(2, 1), (0, w)] M Q := by
  have q0 := q M (zSm.refl _ _) hC
  unfold zhas at q q0
  refine E_Zt_has hsl ⟨fun g => ⟨hC.k8, ?_⟩, fun g => ?_, fun g => ⟨hC.k8, ?_⟩, fun g => c_untrue hsl hP hC ?_, fun g => c_keptTold hsl ?_, fun g => ?_, fun g => ?_, fun g => ?_⟩
  · rw [hC.n]; rw [if_pos g] at q0; exact q0
  · subst g; rw [hC.l0]; exact q0
  · subst g
    rw [hC.2.1]
    refine c_isMarkedN hsl hP hC (fun M' hM _ hC' => ?_)
    have qq := q M' hM hC'
    rcases zmk_01 T L with e | e
    · refine ⟨fun _ => ?_, fun g => absurd e g⟩
      rw [e] at qq; exact qq
    · refine ⟨fun g => absurd (e.symm.trans g) (by decide), fun _ => ?_⟩
      rw [e] at qq; exact qq
  · subst g; exact q0
  · subst g; rw [hN]; exact q0
  · subst g; rw [hr]; exact q0
  · subst g; rw [ha]; exact q0
  · rw [if_neg (by omega), if_neg (by omega), if_neg (by omega), if_neg (by omega), if_neg (by omega), if_neg (by omega), if_neg (by omega)] at q0; exact q0
def zlet (T : zTb) (c k : Int) : Int := if (0 ≤ c ∧ c < T.1 8 0) ∧ 0 ≤ k ∧ k < 6 then T.1 c (10 + k) else -1
theorem c_letter {G : zG} {h sl : Nat} (hsl : 1 ≤ sl) {T : zTb} {L : Int → Int} {t c k : Int} {M : zM} {Q : Int → zM → Prop} (hT : zTok T) (hC : zCk T L t M) (q : Q (zlet T c k) M) : zCt G (h + 1) sl 0 0 y_Zt_letter [(2, 1), (0, c), (0, k)] M Q := by
  have h8 := hT.2.1
  unfold zlet at q
  refine E_Zt_letter hsl (c_isColC hsl hC (fun a b => ⟨fun g => absurd g (by decide), fun _ => ⟨fun g => ?_, fun g => ⟨fun g2 => ⟨hC.k8, ⟨a, by omega⟩, by omega, ?_⟩, fun g2 => ?_⟩⟩⟩) (fun g => ⟨fun _ => ?_, fun g2 => absurd rfl g2⟩))
  · rw [if_neg (by omega)] at q; exact q
  · rw [hC.2.1, (hC.c1 a b).2.2 k (by omega) g2]; rw [if_pos (by omega)] at q; exact q
  · rw [if_neg (by omega)] at q; exact q
  · rw [if_neg (by omega)] at q; exact q
def zcol (T : zTb) (L : Int → Int) (c w : Int) : Int := if 0 ≤ c ∧ c < T.1 8 0 then (if w = 0 then T.1 c 0 else if w = 1 then L (9 + c) else if w = 2 then T.1 c 1 else if w = 3 then T.1 c 2 else -1) else -1
theorem c_column {G : zG} {h sl : Nat} (hsl : 1 ≤ sl) {T : zTb} {L : Int → Int} {t c w : Int} {M : zM} {Q : Int → zM → Prop} (hP : zPu T L) (hC : zCk T L t M) (q : Q (zcol T L c w) M) : zCt G (h + 1) sl 0 0 y_Zt_column [(2, 1), (0, c), (0, w)] M Q := by
  have h8 := hP.1.2.1
  unfold zcol at q
  refine E_Zt_column hsl (c_isColC hsl hC (fun a b => ⟨fun _ => ⟨hC.k8, ⟨a, by omega⟩, ?_⟩, fun g => absurd (by decide) g⟩) (fun g => ⟨fun g2 => absurd rfl g2, fun _ => ?_⟩))
  · rw [if_pos ⟨a, b⟩] at q
    obtain ⟨⟨a1, a2, a3, _⟩, _⟩ := hC.c1 a b
    rw [hC.2.1]
    refine ⟨fun g => ?_, fun g => c_goesUp hsl (by decide) hC.2.2.2.1.2.1 a (by omega) ?_, fun g => ?_, fun g => ?_, fun g => ?_⟩
    · subst g; rw [a1]; exact q
    · subst g
      rw [(hC.2.2.2.1.2.2 c a b).2]
      have hu := (hP.2.1.2.2 c a b).up
      rcases hu with e | e
      · refine ⟨fun _ => ?_, fun g => absurd e g⟩
        rw [e] at q; exact q
      · refine ⟨fun g => absurd (e.symm.trans g) (by decide), fun _ => ?_⟩
        rw [e] at q; exact q
    · subst g; rw [a2]; exact q
    · subst g; rw [a3]; exact q
    · rw [if_neg (by omega), if_neg (by omega), if_neg (by omega), if_neg (by omega)] at q; exact q
  · rw [if_neg g] at q; exact q
def zvlu (T : zTb) (L : Int → Int) (c w : Int) : Int := if (0 ≤ c ∧ c < T.1 8 0) ∧ 0 ≤ w ∧ w ≤ 1 then (if w = 0 then L (1 + c) else ztr T (L 0).toNat (1 + c)) else -1000000000000000
theorem c_value {G : zG} {h sl : Nat} (hsl : 1 ≤ sl) {T : zTb} {L : Int → Int} {t c w : Int} {M : zM} {Q : Int → zM → Prop} (hP : zPu T L) (hC : zCk T L t M) (q : Q (zvlu T L c w) M) : zCt G (h + 1) sl 0 0 y_Zt_value [(2, 1), (0, c), (0, w)] M Q := by
  have h8 := hP.1.2.1
  have h0 := hP.2.1.1
  obtain ⟨m, hm, hc⟩ := hC.2.2.2.2.1
  unfold zvlu at q
  refine E_Zt_value hsl (c_isColC hsl hC (fun a b => ⟨fun g => absurd g (by decide), fun _ => ⟨fun g => ?_, fun g => ⟨fun g2 => ⟨fun g3 => ?_, fun g3 => ⟨⟨a, by omega⟩, ?_⟩⟩, fun g2 => ?_⟩⟩⟩) (fun g => ⟨fun _ => ?_, fun g2 => absurd rfl g2⟩))
  · rw [if_neg (by omega)] at q; exact q
  · rw [if_pos (by omega), if_neg g3] at q
    have hgo : zCt G h sl 0 0 y_Course_told [(2, 8), (0, (((L 0).toNat : Nat) : Int)), (0, c)] M Q := c_toldC hsl (Or.inl rfl) hP.1 hc (by omega) a b q
    rw [show (((L 0).toNat : Nat) : Int) = L 0 from by omega] at hgo
    rw [hC.l0]
    exact hgo
  · rw [if_pos (by omega), if_pos (by omega)] at q
    rw [show M 5 c = L (1 + c) from (hC.2.2.2.1.2.2 c a b).1]; exact q
  · rw [if_neg (by omega)] at q; exact q
  · rw [if_neg (by omega)] at q; exact q
def zkpt (N : Int) (kl ku : Int → Int) (k w : Int) : Int := if (0 ≤ k ∧ k < zkt4 N) ∧ (w = 0 ∨ w = 1) then (if w = 0 then kl (N - zkt4 N + k) else ku (N - zkt4 N + k)) else -1
theorem c_kept {G : zG} {h sl : Nat} (hsl : 1 ≤ sl) {N k w : Int} {kl ku : Int → Int} {M : zM} {Q : Int → zM → Prop} (hN : M 18 4 = N) (h0 : 0 ≤ N) (h9 : N ≤ 1000) (hl : zAr M 19 N kl) (hu : zAr M 20 N ku) (q : Q (zkpt N kl ku k w) M) : zCt G (h + 3) sl 0 0 y_Zt_kept [(2, 1), (0, k), (0, w)] M Q := by
  subst hN
  have hz : 0 ≤ zkt4 (M 18 4) ∧ zkt4 (M 18 4) ≤ M 18 4 := by unfold zkt4; split <;> omega
  unfold zkpt at q
  refine E_Zt_kept hsl ⟨fun g => ?_, fun g => c_keptTold hsl ⟨fun g2 => ⟨fun g3 => ⟨fun g4 => ?_, fun g4 => c_keptUntrue hsl ⟨h0, h9⟩ (by omega) g2 ?_⟩, fun g3 => c_keptLine hsl ⟨h0, h9⟩ (by omega) g2 ?_⟩, fun g2 => ?_⟩⟩
  · rw [if_neg (by omega)] at q; exact q
  · rw [if_neg (by omega)] at q; exact q
  · rw [if_pos (by omega), if_neg g3] at q
    rw [hu _ (by omega) (by omega)]; exact q
  · rw [if_pos (by omega), if_pos (by omega)] at q
    rw [hl _ (by omega) (by omega)]; exact q
  · rw [if_neg (by omega)] at q; exact q
def zfau (fk fp w : Int) : Int := if w = 0 then fk else if w = 1 then fp else -1
theorem c_fault {G : zG} {h sl : Nat} (hsl : 1 ≤ sl) {w : Int} {M : zM} {Q : Int → zM → Prop} (q : Q (zfau (M 1 14) (M 1 15) w) M) : zCt G h sl 0 0 y_Zt_fault [(2, 1), (0, w)] M Q := by
  unfold zfau at q
  refine E_Zt_fault hsl ⟨fun g => ⟨fun g2 => ?_, fun g2 => ?_⟩, fun g => ?_⟩
  · rw [if_neg g, if_neg g2] at q; exact q
  · rw [if_neg g, if_pos (by omega)] at q; exact q
  · rw [if_pos (by omega)] at q; exact q
def zoct (pl : Int) (P : Int → Int) (k : Int) : Int := if 0 ≤ k ∧ k < pl then P k else -1
theorem c_octet {G : zG} {h sl : Nat} (hsl : 1 ≤ sl) {k pl : Int} {P : Int → Int} {M : zM} {Q : Int → zM → Prop} (h1 : M 1 13 = pl) (hp : pl ≤ 35) (hP : zAr M 77 pl P) (q : Q (zoct pl P k) M) : zCt G h sl 0 0 y_Zt_octet [(2, 1), (0, k)] M Q := by
  unfold zoct at q
  refine E_Zt_octet hsl ⟨fun g => ?_, fun g => ⟨fun g2 => ?_, fun g2 => ⟨by omega, ?_⟩⟩⟩
  · rw [if_neg (by omega)] at q; exact q
  · rw [if_neg (by omega)] at q; exact q
  · rw [if_pos (by omega)] at q; rw [hP k (by omega) (by omega)]; exact q
def zsta (Rf : Int → Int) (k : Int) : Int := if 0 ≤ k ∧ k < 6 then Rf k else -1
theorem c_status {G : zG} {h sl : Nat} (hsl : 1 ≤ sl) {k : Int} {Rf : Int → Int} {M : zM} {Q : Int → zM → Prop} (hR : zAr M 78 6 Rf) (q : Q (zsta Rf k) M) : zCt G h sl 0 0 y_Zt_status [(2, 1), (0, k)] M Q := by
  unfold zsta at q
  refine E_Zt_status hsl ⟨fun g => ?_, fun g => ⟨fun g2 => ?_, fun g2 => ⟨by omega, ?_⟩⟩⟩
  · rw [if_neg (by omega)] at q; exact q
  · rw [if_neg (by omega)] at q; exact q
  · rw [if_pos (by omega)] at q; rw [hR k (by omega) (by omega)]; exact q
