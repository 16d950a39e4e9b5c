/-! ASK: the class. -/
def zakf (B : Int → Int) (n : Nat) : Int × Int := match zqst B n with
  | .inl x => x
  | .inr _ => (0, -1)
def zask (T : zTb) (L : Int → Int) (B : Int → Int) (n : Nat) : Int := match zqst B n with
  | .inl _ => -1000000000000000
  | .inr x => zqa T L x.1 x.2 (T.1 8 0).toNat
def zPak (t : Int) : Int → Int → Prop := fun a k => a = 72 ∧ (k = 2 ∨ k = 3 ∨ k = 4 ∨ 6 ≤ k ∧ k ≤ 11) ∨ a = 73 ∧ k = 2 ∨ a = 74 ∨ a = 1 ∧ (k = 14 ∨ k = 15) ∨ a = 2 ∧ k = 1 ∨ zPq t a k ∨ zPan a k
theorem c_ask {G : zG} {h sl : Nat} (hsl : 1 ≤ sl) {T : zTb} {L : Int → Int} {t : Int} {B : Int → Int} {n : Nat} {M : zM} {Q : Int → zM → Prop} (hP : zPu T L) (hC : zCk T L t M) (hn : n ≤ 1600) (h2 : M 2 1 = n) (h3 : zAr M 3 n B) (q : ∀ M', zSm (zPak t) M M' → zCk T L t M' → M' 1 14 = (zakf B n).1 → M' 1 15 = (zakf B n).2 → M' 2 1 = 0 → Q (zask T L B n) M') : zCt G (h + 41) sl 0 0 y_Zt_ask [(2, 1)] M Q := by
  have ht := hC.1
  have hz := zam_le hP
  unfold zakf zask at q
  have mrq : ∀ {M1 M2 : zM}, zSm zPrq M1 M2 → zSm (zPak t) M1 M2 := fun hh => hh.mono (fun a k p => by unfold zPrq at p; unfold zPak; omega)
  -- noteFault
  have nf : ∀ (M2 : zM) (f p : Int), zSm (zPak t) M M2 → zCk T L t M2 → M2 72 3 = f → M2 72 4 = p → ∀ M5, M5 = zwr (zwr (zwr M2 1 14 (M2 72 3)) 1 15 ((zwr M2 1 14 (M2 72 3)) 72 4)) 2 1 0 → zSm (zPak t) M M5 ∧ zCk T L t M5 ∧ M5 1 14 = f ∧ M5 1 15 = p ∧ M5 2 1 = 0 := fun M2 f p hM hC2 ef ep M5 e5 => by
    rw [e5]
    refine ⟨((hM.wr (Or.inr (Or.inr (Or.inr (Or.inl ⟨rfl, Or.inl rfl⟩))))).wr (Or.inr (Or.inr (Or.inr (Or.inl ⟨rfl, Or.inr rfl⟩))))).wr (Or.inr (Or.inr (Or.inr (Or.inr (Or.inl ⟨rfl, rfl⟩))))), hC2.fr hP.1 (fun a k p => by unfold zdCk at p; rw [zwr_i, if_neg (by omega), zwr_i, if_neg (by omega), zwr_i, if_neg (by omega)]), ?_, ?_, zwr_s _ _ _ _⟩
    · rw [zwr_o _ (by decide), zwr_k _ (by decide), zwr_s, ef]
    · rw [zwr_o _ (by decide), zwr_s, zwr_o _ (by decide), ep]
  have fr : ∀ {M2 : zM}, zSm zPrq M M2 → zCk T L t M2 := fun hh => hC.fr hP.1 (fun a k p => hh a k (by unfold zdCk at p; unfold zPrq; omega))
  refine E_Zt_ask hsl (c_readQuestion hsl hn h2 h3 (fun kind cs hz1 M2 hM2 e2 e3 e4 e73 hs => E_Zt_noteFault hsl ⟨fun _ => ?_, fun y => absurd (by decide) y⟩) (fun f p hz1 M2 hM2 e3 e4 => E_Zt_noteFault hsl ⟨fun y => absurd rfl y, fun _ => ?_⟩))
  · rw [hz1] at q
    have ok := zqst_ok hz1
    have g5 := nf M2 0 (-1) (mrq hM2) (fr hM2) e3 e4 _ rfl
    generalize eM5 : zwr (zwr (zwr M2 1 14 (M2 72 3)) 1 15 ((zwr M2 1 14 (M2 72 3)) 72 4)) 2 1 0 = M5 at g5
    have up : ∀ a k, 70 ≤ a → M5 a k = M2 a k := fun a k ha => by rw [← eM5, zwr_i, if_neg (by omega), zwr_i, if_neg (by omega), zwr_i, if_neg (by omega)]
    have hzm : 1 ≤ zam L := by
      have := hP.2.2
      have := hP.2.1.1
      unfold zam
      omega
    refine c_mostAhead (h := h + 39) hsl hP g5.2.1 ?_
    have := c_reachA (G := G) (h := h + 35) (n := zam L - 1) (M := M5) (Q := fun r8 M9 => zCt G (h + 40) sl 0 0 y_Question_answer [(2, 76), (2, (M9 1 11)), (0, (M9 72 2)), (2, 73)] M9 (fun r10 M11 => Q r10 M11)) hsl hP g5.2.1 (by omega) (fun M9 m h9 hC9 hm9 hc9 => ?_)
    · rw [show ((zam L - 1 : Nat) : Int) = (zam L : Int) - 1 from by omega] at this
      exact this
    · have hq9 := zPR_q13 h9
      have up9 : ∀ a k, 72 ≤ a → a ≤ 74 → M9 a k = M2 a k := fun a k h1 h2 => by rw [hq9 a k (by unfold zPq; omega), up a k (by omega)]
      rw [hC9.2.1, up9 72 2 (by decide) (by decide), e2]
      refine c_answer (h := h + 37) hsl hP hC9 hc9 (by omega) ok.1 ok.2.2 (by rw [up9 73 2 (by decide) (by decide)]; exact e73) (by have := ok.2.1; omega) (zSeg_eq (fun j => up9 74 j (by decide) (by decide)) hs) (fun M11 h11 => ?_)
      have m9 : zSm (zPak t) M5 M9 := hq9.mono (fun a k p => Or.inr (Or.inr (Or.inr (Or.inr (Or.inr (Or.inl p))))))
      have m11 : zSm (zPak t) M9 M11 := h11.mono (fun a k p => Or.inr (Or.inr (Or.inr (Or.inr (Or.inr (Or.inr p))))))
      have low : ∀ a k, a ≤ 2 → M11 a k = M5 a k := fun a k h1 => by rw [h11 a k (by unfold zPan; omega), hq9 a k (by unfold zPq; omega)]
      refine q M11 ((g5.1.trans m9).trans m11) (hC9.fr hP.1 (fun a k p => h11 a k (by unfold zdCk at p; unfold zPan; omega))) ?_ ?_ ?_
      · rw [low 1 14 (by decide)]; exact g5.2.2.1
      · rw [low 1 15 (by decide)]; exact g5.2.2.2.1
      · rw [low 2 1 (by decide)]; exact g5.2.2.2.2
  · rw [hz1] at q
    have g5 := nf M2 f p (mrq hM2) (fr hM2) e3 e4 _ rfl
    exact q _ g5.1 g5.2.1 g5.2.2.1 g5.2.2.2.1 g5.2.2.2.2
