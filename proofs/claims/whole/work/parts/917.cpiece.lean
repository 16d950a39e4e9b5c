/-! THE CLASS: pieces; fits(). -/
def zPr (rm : Int) (rw : Int → Int) (M : zM) : Prop := M 63 8 = rm ∧ ∀ k, 0 ≤ k → k < rm → M 66 k = rw (3 * k) ∧ M 67 k = rw (3 * k + 1) ∧ M 68 k = rw (3 * k + 2)
def zPf (T : zTb) (rm : Int) (rw : Int → Int) (M : zM) : Prop := M 63 9 = (zct (zfp T rm rw) 400 : Nat) ∧ ∀ k : Int, 0 ≤ k → k < (zct (zfp T rm rw) 400 : Nat) → M 70 k = zkh (zfp T rm rw) (fun i => (i : Int)) k 400
def zgap (T : zTb) (c : Int) : Nat := (T.1 c 2 - T.1 c 1).toNat
def zPd (T : zTb) (rm : Int) (rw : Int → Int) (c : Int) (M : zM) : Prop := M 63 10 = (zct (zdp T rm rw c) (zgap T c) : Nat) ∧ ∀ k : Int, 0 ≤ k → k < (zct (zdp T rm rw c) (zgap T c) : Nat) → M 71 k = zkh (zdp T rm rw c) (fun i => (i : Int) + 1) k (zgap T c)
/-- what tells most: down, column, left -/
def zml (T : zTb) (rm : Int) (rw : Int → Int) (d : Nat) (c : Int) : Int := zmx (zfp T rm rw) (fun i => ztr T (i + d) (1 + c)) 400
def zte1 (T : zTb) (rm : Int) (rw : Int → Int) (d : Nat) (c : Int) (x : Int × Int × Int) : Int × Int × Int :=
  if T.1 c 0 ≠ 3 ∧ 0 < zml T rm rw d c ∧ (x.2.2 = 0 ∨ zml T rm rw d c < x.2.2) then ((d : Int), c, zml T rm rw d c) else x
def zte2 (T : zTb) (rm : Int) (rw : Int → Int) (d : Nat) (x : Int × Int × Int) : Nat → Int × Int × Int
  | 0 => x
  | k + 1 => zte1 T rm rw d k (zte2 T rm rw d x k)
def zte (T : zTb) (rm : Int) (rw : Int → Int) : Nat → Int × Int × Int
  | 0 => (-1, -1, 0)
  | d + 1 => zte2 T rm rw d (zte T rm rw d) (T.1 8 0).toNat
def zPw (T : zTb) (rm : Int) (rw : Int → Int) (M : zM) : Prop := M 63 13 = (zte T rm rw 31).2.2 ∧ ((zte T rm rw 31).2.2 ≠ 0 → M 63 11 = (zte T rm rw 31).1 ∧ M 63 12 = (zte T rm rw 31).2.1)
/-- the class's piece: its rows, what is listed of it, the table that is clean -/
def zPc (T : zTb) (rm : Int) (rw : Int → Int) (M : zM) : Prop :=
  zPr rm rw M ∧ (M 63 14 ≠ 0 → zPf T rm rw M) ∧ (M 63 15 ≠ 0 → zPw T rm rw M) ∧ (∀ c, 0 ≤ c → c < T.1 8 0 → T.1 c 0 = 0 → M 63 16 = c → zPd T rm rw c M) ∧ ∀ v, 0 ≤ v → v < 1000 → M 69 v = 0
def zdPc : Int → Int → Prop := fun a k => a = 63 ∧ 8 ≤ k ∧ k ≤ 16 ∨ 66 ≤ a ∧ a ≤ 71
theorem zPr.fr {rm : Int} {rw : Int → Int} {M M' : zM} (e : ∀ a k, a = 63 ∧ k = 8 ∨ 66 ≤ a ∧ a ≤ 68 → M' a k = M a k) (h : zPr rm rw M) : zPr rm rw M' :=
  ⟨by rw [e _ _ (by omega)]; exact h.1, fun k k0 kn => by rw [e _ _ (by omega), e _ _ (by omega), e _ _ (by omega)]; exact h.2 k k0 kn⟩
theorem zPf.fr {T : zTb} {rm : Int} {rw : Int → Int} {M M' : zM} (e : ∀ a k, a = 63 ∧ k = 9 ∨ a = 70 → M' a k = M a k) (h : zPf T rm rw M) : zPf T rm rw M' :=
  ⟨by rw [e _ _ (by omega)]; exact h.1, fun k k0 kn => by rw [e _ _ (by omega)]; exact h.2 k k0 kn⟩
theorem zPd.fr {T : zTb} {rm c : Int} {rw : Int → Int} {M M' : zM} (e : ∀ a k, a = 63 ∧ k = 10 ∨ a = 71 → M' a k = M a k) (h : zPd T rm rw c M) : zPd T rm rw c M' :=
  ⟨by rw [e _ _ (by omega)]; exact h.1, fun k k0 kn => by rw [e _ _ (by omega)]; exact h.2 k k0 kn⟩
theorem zPw.fr {T : zTb} {rm : Int} {rw : Int → Int} {M M' : zM} (e : ∀ a k, a = 63 ∧ (k = 11 ∨ k = 12 ∨ k = 13) → M' a k = M a k) (h : zPw T rm rw M) : zPw T rm rw M' :=
  ⟨by rw [e _ _ (by omega)]; exact h.1, fun g => by rw [e _ _ (by omega), e _ _ (by omega)]; exact h.2 g⟩
theorem zPc.fr {T : zTb} {rm : Int} {rw : Int → Int} {M M' : zM} (e : ∀ a k, zdPc a k → M' a k = M a k) (h : zPc T rm rw M) : zPc T rm rw M' := by
  obtain ⟨h1, h2, h3, h4, h5⟩ := h
  refine ⟨h1.fr (fun a k p => e a k (by unfold zdPc; omega)), fun g => (h2 (by rw [← e 63 14 (by unfold zdPc; omega)]; exact g)).fr (fun a k p => e a k (by unfold zdPc; omega)), fun g => (h3 (by rw [← e 63 15 (by unfold zdPc; omega)]; exact g)).fr (fun a k p => e a k (by unfold zdPc; omega)), fun c c0 cn cz g => (h4 c c0 cn cz (by rw [← e 63 16 (by unfold zdPc; omega)]; exact g)).fr (fun a k p => e a k (by unfold zdPc; omega)), fun v v0 v1 => by rw [e 69 v (by unfold zdPc; omega)]; exact h5 v v0 v1⟩
/-- as far as 429 what is true is known -/
def zT42 (T : zTb) (t : Int) (M : zM) : Prop := ∃ m : Nat, 429 < m ∧ zCo T (zbg T) m M 8 t
theorem zT42.fr {T : zTb} {t : Int} {M M' : zM} (e : ∀ a k, zdCo 8 a k → M' a k = M a k) (h : zT42 T t M) : zT42 T t M' := by
  obtain ⟨m, hm, hc⟩ := h
  exact ⟨m, hm, hc.fr e⟩
theorem c_told4 {G : zG} {h sl : Nat} (hsl : 1 ≤ sl) {T : zTb} {t k c : Int} {M : zM} {Q : Int → zM → Prop} (hT : zTok T) (h4 : zT42 T t M) (k0 : 0 ≤ k) (k4 : k ≤ 429) (c0 : 0 ≤ c) (cn : c < T.1 8 0) (q : Q (ztr T k.toNat (1 + c)) M) : zCt G h sl 0 0 y_Course_told [(2, 8), (0, k), (0, c)] M Q := by
  obtain ⟨m, hm, hc⟩ := h4
  have : zCt G h sl 0 0 y_Course_told [(2, 8), (0, ((k.toNat : Nat) : Int)), (0, c)] M Q := c_toldC hsl (Or.inl rfl) hT hc (by omega) c0 cn q
  rw [show ((k.toNat : Nat) : Int) = k from by omega] at this
  exact this
theorem c_fitsAtL {G : zG} {h sl : Nat} (hsl : 1 ≤ sl) {T : zTb} {t rm : Int} {rw : Int → Int} {line : Nat} {M : zM} {Q : Int → zM → Prop} (hT : zTok T) (hR : zRw T rm rw) (hr : zPr rm rw M) (h4 : zT42 T t M) (hl : line < 400) :
    ∀ (d k : Nat) {u : Nat × Nat × Nat × Nat}, d + k = rm.toNat → Q (if zaq (fun k => decide (ztr T (line + (rw (3 * k)).toNat) (1 + rw (3 * k + 1)) = rw (3 * k + 2))) d k = true then 1 else 0) M → zX G (y_Piece_fitsAt, h + 1, sl) u 2 [(0, (2, 63)), (1, (0, (line : Int))), (2, (0, (k : Int)))] [] M Q
  | 0, k, u, e, q => B_Piece_fitsAt_2 hsl ⟨fun _ => q, fun g => absurd (by rw [hr.1]; omega) g⟩
  | d + 1, k, u, e, q => by
    have hb := hR.1
    obtain ⟨r1, r2, r3⟩ := hR.2 (k : Int) (by omega) (by omega)
    obtain ⟨e1, e2, e3⟩ := hr.2 (k : Int) (by omega) (by omega)
    refine B_Piece_fitsAt_2 hsl ⟨fun g => absurd g (by rw [hr.1]; omega), fun _ => ⟨by omega, ?_⟩⟩
    rw [e1, e2]
    refine ⟨by unfold zI; omega, c_told4 hsl hT h4 (by omega) (by omega) r2.1 r2.2 ?_⟩
    rw [e3, show ((line : Int) + rw (3 * (k : Int))).toNat = line + (rw (3 * (k : Int))).toNat from by omega]
    refine ⟨fun g => ⟨by unfold zI; omega, ?_⟩, fun g => ?_⟩
    · rw [zaq_yes (p := fun k => decide (ztr T (line + (rw (3 * (k : Nat))).toNat) (1 + rw (3 * (k : Nat) + 1)) = rw (3 * (k : Nat) + 2))) (decide_eq_true g)] at q
      have := c_fitsAtL (G := G) (h := h) (Q := Q) hsl hT hR hr h4 hl d (k + 1) (u := u) (by omega) q
      rw [zcs] at this
      exact this
    · rw [zaq_no (p := fun k => decide (ztr T (line + (rw (3 * (k : Nat))).toNat) (1 + rw (3 * (k : Nat) + 1)) = rw (3 * (k : Nat) + 2))) (by simp only [decide_eq_true_eq]; exact g)] at q
      exact q
theorem c_fitsAt {G : zG} {h sl : Nat} (hsl : 1 ≤ sl) {T : zTb} {t rm : Int} {rw : Int → Int} {line : Nat} {M : zM} {Q : Int → zM → Prop} (hT : zTok T) (hR : zRw T rm rw) (hr : zPr rm rw M) (h4 : zT42 T t M) (hl : line < 400) (q : Q (if zfp T rm rw line = true then 1 else 0) M) : zCt G (h + 1) sl 0 0 y_Piece_fitsAt [(2, 63), (0, (line : Int))] M Q :=
  E_Piece_fitsAt hsl (c_fitsAtL hsl hT hR hr h4 hl rm.toNat 0 (by omega) q)
def zPlf : Int → Int → Prop := fun a k => a = 63 ∧ (k = 9 ∨ k = 14) ∨ a = 70
theorem c_listFitsL {G : zG} {h sl : Nat} (hsl : 1 ≤ sl) {T : zTb} {t rm : Int} {rw : Int → Int} {M0 : zM} {Q : Int → zM → Prop} (hT : zTok T) (hR : zRw T rm rw) (q : ∀ M', zSm zPlf M0 M' → M' 63 14 = 1 → zPf T rm rw M' → Q 0 M') :
    ∀ (d k : Nat) {M : zM} {u : Nat × Nat × Nat × Nat}, d + k = 400 → zSm zPlf M0 M → zPr rm rw M → zT42 T t M → M 63 9 = (zct (zfp T rm rw) k : Nat) → (∀ i : Int, 0 ≤ i → i < (zct (zfp T rm rw) k : Nat) → M 70 i = zkh (zfp T rm rw) (fun i => (i : Int)) i k) → zX G (y_Piece_listFits, h + 1 + 1, sl) u 15 [(0, (2, 63)), (1, (0, (k : Int)))] [] M Q
  | 0, k, M, u, e, hM, hr, h4, h9, hl => by
    have : k = 400 := by omega
    subst this
    refine B_Piece_listFits_15 hsl ⟨fun _ => q _ (hM.wr (by unfold zPlf; omega)) (zwr_s _ _ _ _) ⟨by rw [zwr_k _ (by decide)]; exact h9, fun i a b => by rw [zwr_o _ (by decide)]; exact hl i a b⟩, fun g => absurd (by decide) g⟩
  | d + 1, k, M, u, e, hM, hr, h4, h9, hl => by
    have hle := zct_le (zfp T rm rw) k
    refine B_Piece_listFits_15 hsl ⟨fun g => absurd g (by omega), fun _ => c_fitsAt hsl hT hR hr h4 (by omega) ?_⟩
    by_cases c : zfp T rm rw k = true
    · rw [if_pos c]
      refine ⟨fun g => absurd g (by decide), fun _ => ?_⟩
      rw [h9]
      have e9 : ∀ v, (zwr M 70 ((zct (zfp T rm rw) k : Nat) : Int) v) 63 9 = (zct (zfp T rm rw) k : Nat) := fun v => by rw [zwr_o _ (by decide)]; exact h9
      rw [e9]
      refine ⟨by omega, by unfold zI; omega, by unfold zI; omega, ?_⟩
      have g2 : zSm zPlf M (zwr (zwr M 70 ((zct (zfp T rm rw) k : Nat) : Int) k) 63 9 (((zct (zfp T rm rw) k : Nat) : Int) + 1)) := ((zSm.refl _ M).wr (by unfold zPlf; omega)).wr (by unfold zPlf; omega)
      have := c_listFitsL (G := G) (h := h) (Q := Q) hsl hT hR q d (k + 1) (M := zwr (zwr M 70 ((zct (zfp T rm rw) k : Nat) : Int) k) 63 9 (((zct (zfp T rm rw) k : Nat) : Int) + 1)) (u := u) (by omega) (hM.trans g2) (hr.fr (fun a j p => g2 a j (by unfold zPlf; omega))) (h4.fr (fun a j p => g2 a j (by unfold zdCo at p; unfold zPlf; omega))) (by rw [zwr_s, zct_yes c]; omega) (fun i a b => by
        rw [zct_yes c] at b
        rw [zwr_o _ (by decide)]
        by_cases ci : i = (zct (zfp T rm rw) k : Nat)
        · subst ci
          rw [zwr_s, zkh_yes c rfl]
        · rw [zwr_k _ ci, zkh_no (fun x => ci x.2.symm)]
          exact hl i a (by omega))
      rw [zcs] at this
      exact this
    · rw [if_neg c]
      refine ⟨fun _ => ⟨by unfold zI; omega, ?_⟩, fun g => absurd rfl g⟩
      have := c_listFitsL (G := G) (h := h) (Q := Q) hsl hT hR q d (k + 1) (M := M) (u := u) (by omega) hM hr h4 (by rw [zct_no c]; exact h9) (fun i a b => by
        rw [zct_no c] at b
        rw [zkh_no (fun x => c x.1)]
        exact hl i a b)
      rw [zcs] at this
      exact this
theorem c_listFits {G : zG} {h sl : Nat} (hsl : 1 ≤ sl) {T : zTb} {t rm : Int} {rw : Int → Int} {M : zM} {Q : Int → zM → Prop} (hT : zTok T) (hR : zRw T rm rw) (hp : zPc T rm rw M) (h4 : zT42 T t M) (q : ∀ M', zSm zPlf M M' → zPc T rm rw M' → zPf T rm rw M' → zT42 T t M' → Q 0 M') : zCt G (h + 2) sl 0 0 y_Piece_listFits [(2, 63)] M Q := by
  refine E_Piece_listFits hsl ⟨fun g => ?_, fun g => q M (zSm.refl _ _) hp (hp.2.1 g) h4⟩
  have g1 : zSm zPlf M (zwr M 63 9 0) := (zSm.refl _ M).wr (by unfold zPlf; omega)
  refine c_listFitsL (M0 := M) (t := t) hsl hT hR (fun M' hM' h14 hf => q M' hM' ?_ hf (h4.fr (fun a j p => hM' a j (by unfold zdCo at p; unfold zPlf; omega)))) 400 0 (by omega) g1 (hp.1.fr (fun a j p => g1 a j (by unfold zPlf; omega))) (h4.fr (fun a j p => g1 a j (by unfold zdCo at p; unfold zPlf; omega))) (zwr_s _ _ _ _) (fun i a b => absurd b (by show ¬ i < ((0 : Nat) : Int); omega))
  obtain ⟨p1, p2, p3, p4, p5⟩ := hp
  exact ⟨p1.fr (fun a j p => hM' a j (by unfold zPlf; omega)), fun _ => hf, fun x => (p3 (by rw [← hM' 63 15 (by unfold zPlf; omega)]; exact x)).fr (fun a j p => hM' a j (by unfold zPlf; omega)), fun c c0 cn cz x => (p4 c c0 cn cz (by rw [← hM' 63 16 (by unfold zPlf; omega)]; exact x)).fr (fun a j p => hM' a j (by unfold zPlf; omega)), fun v v0 v1 => by rw [hM' 69 v (by unfold zPlf; omega)]; exact p5 v v0 v1⟩
/-- what pieces' questions may change -/
def zPp (t : Int) : Int → Int → Prop := fun a k => zPq t a k ∨ a = 63 ∧ 9 ≤ k ∧ k ≤ 16 ∨ 69 ≤ a ∧ a ≤ 71 ∨ a = 64 ∧ (k = 1 ∨ k = 2) ∨ a = 65
theorem c_fits {G : zG} {h sl : Nat} (hsl : 1 ≤ sl) {T : zTb} {L : Int → Int} {t rm k : Int} {rw : Int → Int} {M : zM} {Q : Int → zM → Prop} (hP : zPu T L) (hC : zCk T L t M) (hR : zRw T rm rw) (hp : zPc T rm rw M) (q : ∀ M', zSm (zPp t) M M' → zCk T L t M' → zPc T rm rw M' → Q (zkth (zfp T rm rw) (fun i => (i : Int)) 400 k) M') : zCt G (h + 6) sl 0 0 y_Zt_fits [(2, 1), (0, k)] M Q := by
  have ht := hC.1
  refine E_Zt_fits hsl (c_reachT (n := 429) hsl hP hC (by decide) (fun M1 m hM1 hC1 hm hc => ?_))
  have hp1 : zPc T rm rw M1 := hp.fr (fun a j p => hM1 a j (by unfold zdPc at p; unfold zPR zPC zPLn zPO; omega))
  refine c_listFits (t := t) hsl hP.1 hR hp1 ⟨m, hm, hc⟩ (fun M2 hM2 hp2 hf2 _ => ?_)
  have hC2 : zCk T L t M2 := hC1.fr hP.1 (fun a j p => hM2 a j (by unfold zdCk at p; unfold zPlf; omega))
  have qq := q M2 (((zPR_q8 hM1).mono (fun a j p => Or.inl p)).trans (hM2.mono (fun a j p => Or.inr (by unfold zPlf at p; omega)))) hC2 hp2
  unfold zkth at qq
  have hle := zct_le (zfp T rm rw) 400
  rw [hf2.1]
  refine ⟨fun g => ⟨fun g2 => ?_, fun g2 => ⟨fun g3 => ?_, fun g3 => ⟨by omega, ?_⟩⟩⟩, fun g => ?_⟩
  · rw [if_neg g, zkh_out (Or.inl g2)] at qq; exact qq
  · rw [if_neg g, zkh_out (Or.inr g3)] at qq; exact qq
  · rw [if_neg g] at qq
    rw [hf2.2 k (by omega) (by omega)]; exact qq
  · rw [if_pos (by omega)] at qq; exact qq
