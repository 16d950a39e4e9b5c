/-! find(): both sides. -/
def zfr1 (T : zTb) (B : Int → Int) (k : Nat) : Bool := decide (B (4 * (k : Int)) ≤ 30 ∧ B (4 * (k : Int) + 1) < T.1 8 0 ∧ T.1 (B (4 * (k : Int) + 1)) 0 ≠ 3 ∧ T.1 (B (4 * (k : Int) + 1)) 1 ≤ 256 * B (4 * (k : Int) + 2) + B (4 * (k : Int) + 3) ∧ 256 * B (4 * (k : Int) + 2) + B (4 * (k : Int) + 3) ≤ T.1 (B (4 * (k : Int) + 1)) 2)
def zfok (T : zTb) (n : Int) (B : Int → Int) : Prop := (4 ≤ n ∧ n ≤ 48 ∧ n % 4 = 0) ∧ zaq (zfr1 T B) (n / 4).toNat 0 = true
def zfrw (B : Int → Int) : Int → Int := fun j => if j % 3 = 0 then B (4 * (j / 3)) else if j % 3 = 1 then B (4 * (j / 3) + 1) else 256 * B (4 * (j / 3) + 2) + B (4 * (j / 3) + 3)
theorem zfrw_0 (B : Int → Int) (k : Int) : zfrw B (3 * k) = B (4 * k) := by
  unfold zfrw
  rw [if_pos (by omega), show 3 * k / 3 = k from by omega]
theorem zfrw_1 (B : Int → Int) (k : Int) : zfrw B (3 * k + 1) = B (4 * k + 1) := by
  unfold zfrw
  rw [if_neg (by omega), if_pos (by omega), show (3 * k + 1) / 3 = k from by omega]
theorem zfrw_2 (B : Int → Int) (k : Int) : zfrw B (3 * k + 2) = 256 * B (4 * k + 2) + B (4 * k + 3) := by
  unfold zfrw
  rw [if_neg (by omega), if_neg (by omega), show (3 * k + 2) / 3 = k from by omega]
theorem zRw_of {T : zTb} {n : Int} {B : Int → Int} (hB : zBt n B) (h : zfok T n B) : zRw T (n / 4) (zfrw B) := by
  obtain ⟨h1, h2⟩ := h
  rw [zaq_iff] at h2
  refine ⟨by omega, fun k k0 kn => ?_⟩
  have hk := h2 k.toNat (by omega) (by omega)
  unfold zfr1 at hk
  have hk := of_decide_eq_true hk
  rw [show ((k.toNat : Nat) : Int) = k from by omega] at hk
  rw [zfrw_0, zfrw_1, zfrw_2]
  exact ⟨⟨(hB.2 _ (by omega) (by omega)).1, hk.1⟩, ⟨(hB.2 _ (by omega) (by omega)).1, hk.2.1⟩, hk.2.2.1, hk.2.2.2.1, hk.2.2.2.2⟩
theorem c_pair {G : zG} {h sl : Nat} (hsl : 1 ≤ sl) {n k : Int} {B : Int → Int} {M : zM} {Q : Int → zM → Prop} (hB : zBt n B) (ht : zTp n B M) (k0 : 0 ≤ k) (kn : k + 1 < n) (q : Q (256 * B k + B (k + 1)) M) : zCt G h sl 0 0 y_Tape_pair [(2, 2), (0, k)] M Q := by
  have h1 := hB.1
  have b1 := hB.2 k k0 (by omega)
  have b2 := hB.2 (k + 1) (by omega) (by omega)
  refine E_Tape_pair hsl ⟨fun g => absurd g (by omega), fun _ => ⟨by unfold zI; omega, ?_⟩⟩
  rw [ht.1, ht.2 k k0 (by omega), ht.2 (k + 1) (by omega) (by omega)]
  refine ⟨fun _ => ⟨by omega, by unfold zI; omega, by omega, by unfold zI; omega, ?_⟩, fun g => absurd kn g⟩
  rw [show B k * 256 + B (k + 1) = 256 * B k + B (k + 1) from by omega]
  exact q
theorem c_isRow {G : zG} {h sl : Nat} (hsl : 1 ≤ sl) {T : zTb} {t n : Int} {k : Nat} {B : Int → Int} {M : zM} {Q : Int → zM → Prop} (hT : zTok T) (ht : t = 79 ∨ t = 102) (hm : zTc T M t) (hB : zBt n B) (hb : zTp n B M) (hk : 4 * (k : Int) + 3 < n) (q : Q (if zfr1 T B k = true then 1 else 0) M) : zCt G (h + 1) sl 0 0 y_Piece_isRow [(2, 2), (0, (k : Int) * 4), (2, t)] M Q := by
  have h1 := hB.1
  have hk8 : zK t = (8, 0) := by rcases ht with rfl | rfl <;> decide
  have hn8 := hT.2.1
  have no : ¬ (B (4 * (k : Int)) ≤ 30 ∧ B (4 * (k : Int) + 1) < T.1 8 0 ∧ T.1 (B (4 * (k : Int) + 1)) 0 ≠ 3 ∧ T.1 (B (4 * (k : Int) + 1)) 1 ≤ 256 * B (4 * (k : Int) + 2) + B (4 * (k : Int) + 3) ∧ 256 * B (4 * (k : Int) + 2) + B (4 * (k : Int) + 3) ≤ T.1 (B (4 * (k : Int) + 1)) 2) → Q 0 M := fun g => by
    unfold zfr1 at q
    rw [decide_eq_false g] at q
    exact q
  have b1 := hB.2 (4 * (k : Int) + 1) (by omega) (by omega)
  refine E_Piece_isRow hsl ⟨by unfold zI; omega, by omega, by omega, ?_⟩
  rw [show (k : Int) * 4 = 4 * k from by omega, hb.2 _ (by omega) (by omega), hb.2 _ (by omega) (by omega)]
  refine ⟨fun g => no (by omega), fun g1 => ⟨hk8, ?_⟩⟩
  rw [hm.1.1]
  refine ⟨fun g => no (by omega), fun g2 => ⟨by omega, ?_⟩⟩
  have hkc := (zs_cols hk8 (j := B (4 * (k : Int) + 1)) (by omega) (by omega)).2
  obtain ⟨⟨a1, a2, a3, _⟩, _⟩ := hm.2.1 (B (4 * (k : Int) + 1)) (by omega) (by omega)
  refine E_Column_moves hsl ⟨hkc, ?_⟩
  rw [a1]
  refine ⟨fun g => ⟨fun _ => no (fun x => x.2.2.1 g), fun y => absurd rfl y⟩, fun g3 => ⟨fun y => absurd y (by decide), fun _ => ⟨by unfold zI; omega, c_pair hsl hB hb (by omega) (by omega) (E_Column_canTell hsl ⟨hkc, ?_⟩)⟩⟩⟩
  rw [a2, a3, show 4 * (k : Int) + 2 + 1 = 4 * (k : Int) + 3 from by omega]
  refine ⟨fun g => ⟨fun _ => no (by omega), fun y => absurd rfl y⟩, fun g4 => ⟨fun g => ⟨fun _ => no (by omega), fun y => absurd rfl y⟩, fun g5 => ⟨fun y => absurd y (by decide), fun _ => ?_⟩⟩⟩
  unfold zfr1 at q
  rw [decide_eq_true (by omega)] at q
  exact q
def zPrd : Int → Int → Prop := fun a k => 66 ≤ a ∧ a ≤ 68 ∨ a = 63 ∧ (k = 8 ∨ k = 14 ∨ k = 15 ∨ k = 16)
theorem c_readB {G : zG} {h sl : Nat} (hsl : 1 ≤ sl) {n : Int} {m : Nat} {B : Int → Int} {M0 : zM} {Q : Int → zM → Prop} (hB : zBt n B) (hb0 : zTp n B M0) (hm : (m : Int) * 4 = n) (hm12 : m ≤ 12) (q : ∀ M', zSm zPrd M0 M' → zPr m (zfrw B) M' → M' 63 14 = 0 → M' 63 15 = 0 → M' 63 16 = -1 → Q 1 M') :
    ∀ (f k : Nat) {M : zM} {u : Nat × Nat × Nat × Nat}, f + k = m → zSm zPrd M0 M → (∀ i, 0 ≤ i → i < (k : Int) → M 66 i = zfrw B (3 * i) ∧ M 67 i = zfrw B (3 * i + 1) ∧ M 68 i = zfrw B (3 * i + 2)) → zX G (y_Piece_read, h + 1, sl) u 61 [(0, (2, 63)), (1, (2, 2)), (3, (0, (m : Int))), (4, (0, (k : Int)))] [] M Q
  | 0, k, M, u, e, hM, hr => by
    refine B_Piece_read_61 hsl ⟨fun _ => E_Piece_changed hsl (q _ ((((hM.wr (by unfold zPrd; omega)).wr (by unfold zPrd; omega)).wr (by unfold zPrd; omega)).wr (by unfold zPrd; omega)) ⟨?_, fun i a b => ?_⟩ ?_ ?_ (zwr_s _ _ _ _)), fun g => absurd (by omega) g⟩
    · rw [zwr_k _ (by decide), zwr_k _ (by decide), zwr_k _ (by decide), zwr_s]
    · rw [zwr_o _ (by decide), zwr_o _ (by decide), zwr_o _ (by decide), zwr_o _ (by decide), zwr_o _ (by decide), zwr_o _ (by decide), zwr_o _ (by decide), zwr_o _ (by decide), zwr_o _ (by decide), zwr_o _ (by decide), zwr_o _ (by decide), zwr_o _ (by decide)]
      exact hr i a (by omega)
    · rw [zwr_k _ (by decide), zwr_k _ (by decide), zwr_s]
    · rw [zwr_k _ (by decide), zwr_s]
  | f + 1, k, M, u, e, hM, hr => by
    have h1 := hB.1
    have hb : zTp n B M := ⟨by rw [hM _ _ (by unfold zPrd; omega)]; exact hb0.1, fun i a b => by rw [hM _ _ (by unfold zPrd; omega)]; exact hb0.2 i a b⟩
    refine B_Piece_read_61 hsl ⟨fun g => absurd g (by omega), fun _ => ⟨by unfold zI; omega, by omega, by omega, by unfold zI; omega, by omega, by unfold zI; omega, ?_⟩⟩
    have e3 : ∀ v j, (zwr M 66 (k : Int) v) 3 j = M 3 j := fun v j => zwr_o _ (by decide)
    rw [e3, hb.2 _ (by omega) (by omega), hb.2 _ (by omega) (by omega)]
    have g2 : zSm zPrd M (zwr (zwr M 66 (k : Int) (B ((k : Int) * 4))) 67 (k : Int) (B ((k : Int) * 4 + 1))) := ((zSm.refl _ M).wr (by unfold zPrd; omega)).wr (by unfold zPrd; omega)
    refine c_pair hsl (n := n) (B := B) hB ⟨by rw [g2 _ _ (by unfold zPrd; omega)]; exact hb.1, fun i a b => by rw [g2 _ _ (by unfold zPrd; omega)]; exact hb.2 i a b⟩ (by omega) (by omega) ⟨by unfold zI; omega, ?_⟩
    have := c_readB (G := G) (h := h) (Q := Q) hsl hB hb0 hm hm12 q f (k + 1) (M := zwr (zwr (zwr M 66 (k : Int) (B ((k : Int) * 4))) 67 (k : Int) (B ((k : Int) * 4 + 1))) 68 (k : Int) (256 * B ((k : Int) * 4 + 2) + B ((k : Int) * 4 + 2 + 1))) (u := u) (by omega) ((hM.trans g2).wr (by unfold zPrd; omega)) (fun i a b => by
      by_cases c : i = (k : Int)
      · subst c
        rw [zwr_o _ (by decide), zwr_o _ (by decide), zwr_s, zwr_o _ (by decide), zwr_s, zwr_s, zfrw_0, zfrw_1, zfrw_2]
        rw [show (k : Int) * 4 = 4 * k from by omega, show 4 * (k : Int) + 2 + 1 = 4 * (k : Int) + 3 from by omega]
        exact ⟨rfl, rfl, rfl⟩
      · rw [zwr_o _ (by decide), zwr_o _ (by decide), zwr_k _ c, zwr_o _ (by decide), zwr_k _ c, zwr_o _ (by decide), zwr_k _ c, zwr_o _ (by decide), zwr_o _ (by decide)]
        exact hr i a (by omega))
    rw [zcs] at this
    exact this
theorem c_readA {G : zG} {h sl : Nat} (hsl : 1 ≤ sl) {T : zTb} {t n : Int} {m : Nat} {B : Int → Int} {M : zM} {Q : Int → zM → Prop} (hT : zTok T) (ht : t = 79 ∨ t = 102) (hmt : zTc T M t) (hB : zBt n B) (hb : zTp n B M) (hm : (m : Int) * 4 = n) (hm12 : m ≤ 12) :
    ∀ (f k : Nat) {u : Nat × Nat × Nat × Nat}, f + k = m → (zaq (zfr1 T B) f k = true → ∀ M', zSm zPrd M M' → zPr m (zfrw B) M' → M' 63 14 = 0 → M' 63 15 = 0 → M' 63 16 = -1 → Q 1 M') → (¬ zaq (zfr1 T B) f k = true → Q 0 M) → zX G (y_Piece_read, h + 1 + 1, sl) u 32 [(0, (2, 63)), (1, (2, 2)), (2, (2, t)), (3, (0, (m : Int))), (4, (0, (k : Int)))] [] M Q
  | 0, k, u, e, q1, q0 => B_Piece_read_32 hsl ⟨fun _ => c_readB (M0 := M) hsl hB hb hm hm12 (q1 rfl) m 0 (by omega) (zSm.refl _ _) (fun i a b => absurd b (by omega)), fun g => absurd (by omega) g⟩
  | f + 1, k, u, e, q1, q0 => by
    have h1 := hB.1
    refine B_Piece_read_32 hsl ⟨fun g => absurd g (by omega), fun _ => ⟨by unfold zI; omega, c_isRow hsl hT ht hmt hB hb (by omega) ?_⟩⟩
    by_cases c : zfr1 T B k = true
    · rw [if_pos c]
      rw [zaq_yes c] at q1 q0
      refine ⟨fun _ => ⟨by unfold zI; omega, ?_⟩, fun y => absurd (by decide) y⟩
      have := c_readA (G := G) (h := h) (Q := Q) hsl hT ht hmt hB hb hm hm12 f (k + 1) (u := u) (by omega) q1 q0
      rw [zcs] at this
      exact this
    · rw [if_neg c]
      rw [zaq_no c] at q0
      exact ⟨fun y => absurd rfl y, fun _ => q0 (by decide)⟩
theorem c_read {G : zG} {h sl : Nat} (hsl : 1 ≤ sl) {T : zTb} {t n : Int} {B : Int → Int} {M : zM} {Q : Int → zM → Prop} (hT : zTok T) (ht : t = 79 ∨ t = 102) (hmt : zTc T M t) (hB : zBt n B) (hb : zTp n B M)
    (q1 : zfok T n B → ∀ M', zSm zPrd M M' → zPr (n / 4) (zfrw B) M' → M' 63 14 = 0 → M' 63 15 = 0 → M' 63 16 = -1 → Q 1 M') (q0 : ¬ zfok T n B → Q 0 M) : zCt G (h + 2) sl 0 0 y_Piece_read [(2, 63), (2, 2), (2, t)] M Q := by
  have h1 := hB.1
  refine E_Piece_read hsl ?_
  rw [hb.1, Int.tdiv_eq_ediv_of_nonneg h1.1, Int.tmod_eq_emod_of_nonneg h1.1]
  refine ⟨by unfold zI; omega, fun g => q0 (fun x => by have := x.1; omega), fun g1 => ⟨fun g => q0 (fun x => by have := x.1; omega), fun g2 => ⟨fun g3 => ?_, fun g => q0 (fun x => by have := x.1; omega)⟩⟩⟩
  have := c_readA (G := G) (h := h) (Q := Q) (m := (n / 4).toNat) hsl hT ht hmt hB hb (by omega) (by omega) (n / 4).toNat 0 (u := (0, 0, 0, 0)) (by omega) (fun y M' s r a b c => q1 ⟨by omega, y⟩ M' s (by rw [show (((n / 4).toNat : Nat) : Int) = n / 4 from by omega] at r; exact r) a b c) (fun y => q0 (fun x => y x.2))
  rw [show (((n / 4).toNat : Nat) : Int) = n / 4 from by omega] at this
  exact this
def zPfd : Int → Int → Prop := fun a k => zPrd a k ∨ a = 2 ∧ k = 1 ∨ a = 78
theorem c_find {G : zG} {h sl : Nat} (hsl : 1 ≤ sl) {T : zTb} {L : Int → Int} {t n rm : Int} {rw Rf B : Int → Int} {M : zM} {Q : Int → zM → Prop} (hP : zPu T L) (hC : zCk T L t M) (hp : zPc T rm rw M) (hB : zBt n B) (hb : zTp n B M) (hR : zAr M 78 6 Rf) (hbb : 0 ≤ Rf 1 ∧ Rf 1 ≤ 100000)
    (q1 : zfok T n B → ∀ M', zSm zPfd M M' → zTp 0 B M' → zPc T (n / 4) (zfrw B) M' → zAr M' 78 6 Rf → Q (n / 4) M') (q0 : ¬ zfok T n B → ∀ M', zSm zPfd M M' → zTp 0 B M' → zPc T rm rw M' → zAr M' 78 6 (zup Rf 1 (Rf 1 + 1)) → Q (-1) M') : zCt G (h + 3) sl 0 0 y_Zt_find [(2, 1)] M Q := by
  refine E_Zt_find hsl ?_
  rw [hC.2.1]
  refine c_read hsl hP.1 hC.1 hC.2.2.1 hB hb (fun hk M1 hM1 hr1 h14 h15 h16 => ⟨fun y => absurd y (by decide), fun _ => ?_⟩) (fun hk => ⟨fun _ => c_none hsl (by decide) (by decide) (fun k a b => by rw [zwr_o _ (by decide)]; exact hR k a b) hbb (fun M2 hM2 hR2 => ?_), fun y => absurd rfl y⟩)
  · have g2 : ∀ a j, a ≠ 2 → (zwr M1 2 1 0) a j = M1 a j := fun a j n => zwr_o _ n
    rw [g2 _ _ (by decide), hr1.1]
    refine q1 hk _ ((hM1.mono (fun a j p => Or.inl p)).wr (Or.inr (Or.inl ⟨rfl, rfl⟩))) ⟨zwr_s _ _ _ _, fun k a b => absurd b (by omega)⟩ ⟨hr1.fr (fun a j p => g2 a j (by omega)), fun y => absurd (by rw [g2 _ _ (by decide)]; exact h14) y, fun y => absurd (by rw [g2 _ _ (by decide)]; exact h15) y, fun c c0 cn cz y => ?_, fun v v0 v1 => by rw [g2 _ _ (by decide), hM1 _ _ (by unfold zPrd; omega)]; exact hp.2.2.2.2 v v0 v1⟩ (fun k a b => by rw [g2 _ _ (by decide), hM1 _ _ (by unfold zPrd; omega)]; exact hR k a b)
    rw [g2 _ _ (by decide), h16] at y
    omega
  · have g1 : zSm zPfd M M2 := ((zSm.refl _ M).wr (Or.inr (Or.inl ⟨rfl, rfl⟩))).trans (hM2.mono (fun a j p => Or.inr (Or.inr p)))
    refine q0 hk M2 g1 ⟨by rw [hM2 _ _ (by unfold zPrf; omega), zwr_s], fun k a b => absurd b (by omega)⟩ (hp.fr (fun a j p => ?_)) hR2
    rw [hM2 a j (by unfold zdPc at p; unfold zPrf; omega), zwr_o _ (by unfold zdPc at p; omega)]
theorem m_canTell {G : zG} {h sl : Nat} (hsl : 2 ≤ sl) {T : zTb} {c v : Int} {M : zM} {Q : Int → zM → Prop} (hT : zTok T) (hm : zTm T M) (q1 : (0 ≤ c ∧ c < T.1 8 0) → T.1 c 0 ≠ 3 → T.1 c 1 ≤ v → v ≤ T.1 c 2 → Q 1 M) (q0 : ¬ ((0 ≤ c ∧ c < T.1 8 0) ∧ T.1 c 0 ≠ 3 ∧ T.1 c 1 ≤ v ∧ v ≤ T.1 c 2) → Q 0 M) : zCt G (h + 3) sl 0 0 y_Md_canTell [(2, 125), (0, c), (0, v)] M Q := by
  have h8 := hT.2.1
  refine E_Md_canTell hsl (c_isColM hsl hT hm (fun a b => ⟨fun y => absurd y (by decide), fun _ => c_sortOf hsl a (by omega) ?_⟩) (fun g => ⟨fun _ => q0 (fun x => g x.1), fun y => absurd rfl y⟩))
  rw [(hm.2.2.2.1 c a b).1]
  refine ⟨fun g => q0 (fun x => x.2.1 g), fun g => c_leastOf hsl hT hm a b (c_mostOf hsl hT hm a b (c_isIn hsl (fun x y => ⟨fun z => absurd z (by decide), fun _ => q1 ⟨a, b⟩ g x y⟩) (fun z => ⟨fun _ => q0 (fun w => z w.2.2), fun y => absurd rfl y⟩)))⟩
def zPmf : Int → Int → Prop := fun a k => a = 170 ∨ a = 125 ∧ (k = 1 ∨ k = 62) ∨ a = 127
/-- the Model's rows -/
def zPm (rm : Int) (rw : Int → Int) (M : zM) : Prop := M 125 62 = rm ∧ zAr M 170 (3 * rm) rw
theorem m_findB {G : zG} {h sl : Nat} (hsl : 2 ≤ sl) {n : Int} {m : Nat} {B : Int → Int} {M0 : zM} {Q : Int → zM → Prop} (hB : zBt n B) (hb0 : zAr M0 126 n B) (hm : (m : Int) * 4 = n) (hm12 : m ≤ 12) (q : ∀ M', zSm (fun a k => a = 170 ∨ a = 125 ∧ k = 62) M0 M' → zPm m (zfrw B) M' → Q m M') :
    ∀ (f k : Nat) {M : zM} {u : Nat × Nat × Nat × Nat}, f + k = m → zSm (fun a _ => a = 170) M0 M → zAr M 170 (3 * (k : Int)) (zfrw B) → zX G (y_Md_find, h + 1, sl) u 116 [(0, (2, 125)), (1, (0, n)), (3, (0, (k : Int)))] [] M Q
  | 0, k, M, u, e, hM, hr => by
    have h1 := hB.1
    have et : Int.tdiv n 4 = m := by rw [Int.tdiv_eq_ediv_of_nonneg h1.1]; omega
    refine B_Md_find_116 hsl ?_
    rw [et, zwr_s]
    refine ⟨by unfold zI; omega, fun _ => q _ ((hM.mono (fun a j p => Or.inl p)).wr (Or.inr ⟨rfl, rfl⟩)) ⟨zwr_s _ _ _ _, fun i a b => by rw [zwr_o _ (by decide)]; exact hr i a (by omega)⟩, fun g => absurd (by omega) g⟩
  | f + 1, k, M, u, e, hM, hr => by
    have h1 := hB.1
    have et : Int.tdiv n 4 = m := by rw [Int.tdiv_eq_ediv_of_nonneg h1.1]; omega
    have hb : zAr M 126 n B := hb0.fr (fun i => hM _ _ (by omega))
    have b2 := hB.2 (4 * (k : Int) + 2) (by omega) (by omega)
    have b3 := hB.2 (4 * (k : Int) + 3) (by omega) (by omega)
    refine B_Md_find_116 hsl ?_
    rw [et]
    have e1 : ∀ v j, (zwr M 170 (3 * (k : Int)) v) 126 j = M 126 j := fun v j => zwr_o _ (by decide)
    have e2 : ∀ v w j, (zwr (zwr M 170 (3 * (k : Int)) v) 170 (3 * (k : Int) + 1) w) 126 j = M 126 j := fun v w j => by rw [zwr_o _ (by decide), zwr_o _ (by decide)]
    refine ⟨by unfold zI; omega, fun g => absurd g (by omega), fun _ => ?_⟩
    rw [e1, e2, e2, hb _ (by omega) (by omega), hb _ (by omega) (by omega), hb _ (by omega) (by omega), hb _ (by omega) (by omega)]
    refine ⟨by unfold zI; omega, by unfold zI; omega, by omega, by omega, by unfold zI; omega, by unfold zI; omega, by omega, by omega, by unfold zI; omega, by unfold zI; omega, by omega, by unfold zI; omega, by unfold zI; omega, by omega, by unfold zI; omega, by omega, by unfold zI; omega, ?_⟩
    have := m_findB (G := G) (h := h) (Q := Q) hsl hB hb0 hm hm12 q f (k + 1) (M := zwr (zwr (zwr M 170 (3 * (k : Int)) (B (4 * (k : Int)))) 170 (3 * (k : Int) + 1) (B (4 * (k : Int) + 1))) 170 (3 * (k : Int) + 2) (256 * B (4 * (k : Int) + 2) + B (4 * (k : Int) + 3))) (u := u) (by omega) (((hM.wr rfl).wr rfl).wr rfl) (fun i a b => by
      by_cases c2 : i = 3 * (k : Int) + 2
      · subst c2; rw [zwr_s, zfrw_2]
      · rw [zwr_k _ c2]
        by_cases c1 : i = 3 * (k : Int) + 1
        · subst c1; rw [zwr_s, zfrw_1]
        · rw [zwr_k _ c1]
          by_cases c0 : i = 3 * (k : Int)
          · subst c0; rw [zwr_s, zfrw_0]
          · rw [zwr_k _ c0]
            exact hr i a (by omega))
    rw [zcs] at this
    exact this
theorem m_find {G : zG} {h sl : Nat} (hsl : 2 ≤ sl) {T : zTb} {L : Int → Int} {n rm : Int} {rw Rf B : Int → Int} {M : zM} {Q : Int → zM → Prop} (hP : zPu T L) (hC : zMk T L M) (hp : zPm rm rw M) (hB : zBt n B) (hb : zTq n B M) (hR : zAr M 127 6 Rf) (hbb : 0 ≤ Rf 1 ∧ Rf 1 ≤ 100000)
    (q1 : zfok T n B → ∀ M', zSm zPmf M M' → zTq 0 B M' → zPm (n / 4) (zfrw B) M' → zAr M' 127 6 Rf → Q (n / 4) M') (q0 : ¬ zfok T n B → ∀ M', zSm zPmf M M' → zTq 0 B M' → zPm rm rw M' → zAr M' 127 6 (zup Rf 1 (Rf 1 + 1)) → Q (-1) M') : zCt G (h + 4) sl 0 0 y_Md_find [(2, 125)] M Q := by
  have h1 := hB.1
  have g0 : ∀ a j, ¬ (a = 125 ∧ j = 1) → (zwr M 125 1 0) a j = M a j := fun a j x => by rw [zwr_i, if_neg x]
  have hm0 : zTm T (zwr M 125 1 0) := hC.1.frG (fun a j p => g0 a j (by unfold zdMk at p; omega))
  have hb0 : zAr (zwr M 125 1 0) 126 n B := hb.2.fr (fun i => g0 _ _ (by omega))
  have no : ¬ zfok T n B → ∀ u, zX G (y_Md_find, h + 3 + 1, sl) u 104 [(0, (2, 125)), (1, (0, n)), (2, (0, 0))] [] (zwr M 125 1 0) Q := fun hk u => by
    refine B_Md_find_104 hsl ⟨fun y => absurd rfl y, fun _ => m_refuses hsl (by decide) (by decide) (hR.fr (fun i => g0 _ _ (by omega))) hbb (fun M2 hM2 hR2 => ?_)⟩
    refine q0 hk M2 (((zSm.refl _ M).wr (by unfold zPmf; omega)).trans (hM2.mono (fun a j p => by unfold zPrf at p; unfold zPmf; omega))) ⟨by rw [hM2 _ _ (by unfold zPrf; omega), zwr_s], fun i a b => absurd b (by omega)⟩ ⟨by rw [hM2 _ _ (by unfold zPrf; omega), g0 _ _ (by omega)]; exact hp.1, fun i a b => by rw [hM2 _ _ (by unfold zPrf; omega), g0 _ _ (by omega)]; exact hp.2 i a b⟩ hR2
  have done0 : ∀ (k : Int) u, ¬ zfok T n B → zX G (y_Md_find, h + 3 + 1, sl) u 36 [(0, (2, 125)), (1, (0, n)), (2, (0, 0)), (3, (0, k))] [] (zwr M 125 1 0) Q := fun k u hk => B_Md_find_36 hsl ⟨fun _ => no hk u, fun _ => ⟨fun _ => no hk u, fun y => absurd rfl y⟩⟩
  have loop : ∀ (f k : Nat) {u : Nat × Nat × Nat × Nat}, (4 ≤ n ∧ n ≤ 48 ∧ n % 4 = 0) → ((f + k : Nat) : Int) * 4 = n → (zfok T n B ↔ zaq (zfr1 T B) f k = true) → zX G (y_Md_find, h + 3 + 1, sl) u 36 [(0, (2, 125)), (1, (0, n)), (2, (0, 1)), (3, (0, 4 * (k : Int)))] [] (zwr M 125 1 0) Q := by
    intro f
    induction f with
    | zero =>
      intro k u h3 hk hz
      have hok : zfok T n B := hz.mpr rfl
      refine B_Md_find_36 hsl ⟨fun _ => B_Md_find_104 hsl ⟨fun _ => m_findB (M0 := zwr M 125 1 0) (m := (n / 4).toNat) hsl hB hb0 (by omega) (by omega) (fun M' hM' hr => ?_) (n / 4).toNat 0 (by omega) (zSm.refl _ _) (fun i a b => absurd b (by omega)), fun y => absurd (by decide) y⟩, fun g => absurd (by omega) g⟩
      rw [show (((n / 4).toNat : Nat) : Int) = n / 4 from by omega] at hr ⊢
      exact q1 hok M' (((zSm.refl _ M).wr (by unfold zPmf; omega)).trans (hM'.mono (fun a j p => by unfold zPmf; omega))) ⟨by rw [hM' _ _ (by omega), zwr_s], fun i a b => absurd b (by omega)⟩ hr (hR.fr (fun i => by rw [hM' _ _ (by omega), g0 _ _ (by omega)]))
    | succ f ih =>
      intro k u h3 hk hz
      have b0 := hB.2 (4 * (k : Int)) (by omega) (by omega)
      have b1 := hB.2 (4 * (k : Int) + 1) (by omega) (by omega)
      have b2 := hB.2 (4 * (k : Int) + 2) (by omega) (by omega)
      have b3 := hB.2 (4 * (k : Int) + 3) (by omega) (by omega)
      have bad : ¬ (B (4 * (k : Int)) ≤ 30 ∧ B (4 * (k : Int) + 1) < T.1 8 0 ∧ T.1 (B (4 * (k : Int) + 1)) 0 ≠ 3 ∧ T.1 (B (4 * (k : Int) + 1)) 1 ≤ 256 * B (4 * (k : Int) + 2) + B (4 * (k : Int) + 3) ∧ 256 * B (4 * (k : Int) + 2) + B (4 * (k : Int) + 3) ≤ T.1 (B (4 * (k : Int) + 1)) 2) → ¬ zfok T n B := fun g x => by
        have := hz.mp x
        rw [zaq_no (by unfold zfr1; rw [decide_eq_false g]; decide)] at this
        cases this
      refine B_Md_find_36 hsl ⟨fun g => absurd g (by omega), fun _ => ⟨fun y => absurd y (by decide), fun _ => ⟨by omega, ?_⟩⟩⟩
      rw [hb0 _ (by omega) (by omega), hb0 _ (by omega) (by omega), hb0 _ (by omega) (by omega), hb0 _ (by omega) (by omega)]
      refine ⟨fun g => ⟨by unfold zI; omega, done0 _ _ (bad (by omega))⟩, fun g => ⟨by unfold zI; omega, by omega, by unfold zI; omega, by omega, by unfold zI; omega, by unfold zI; omega, by omega, by unfold zI; omega, m_canTell hsl hP.1 hm0 (fun x1 x2 x3 x4 => ⟨fun y => absurd y (by decide), fun _ => ⟨by unfold zI; omega, ?_⟩⟩) (fun x => ⟨fun _ => ⟨by unfold zI; omega, done0 _ _ (bad (fun y => x ⟨⟨b1.1, y.2.1⟩, y.2.2⟩))⟩, fun y => absurd rfl y⟩)⟩⟩
      have hgood : zfr1 T B k = true := by
        unfold zfr1
        exact decide_eq_true ⟨by omega, x1.2, x2, x3, x4⟩
      have := ih (k + 1) (u := u) h3 (by omega) (by rw [hz, zaq_yes hgood])
      rw [zcs, show 4 * ((k : Int) + 1) = 4 * (k : Int) + 4 from by omega] at this
      exact this
  refine E_Md_find hsl ?_
  rw [hb.1, Int.tdiv_eq_ediv_of_nonneg h1.1, Int.tmod_eq_emod_of_nonneg h1.1]
  refine ⟨fun g => done0 0 _ (fun x => by have := x.1; omega), fun g1 => ⟨fun g => done0 0 _ (fun x => by have := x.1; omega), fun g2 => ⟨by unfold zI; omega, fun g => done0 0 _ (fun x => by have := x.1; omega), fun g3 => ?_⟩⟩⟩
  exact loop (n / 4).toNat 0 (by omega) (by omega) ⟨fun x => x.2, fun x => ⟨by omega, x⟩⟩
