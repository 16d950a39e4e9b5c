/-! The tape: feed, end; seed; what is refused. Both sides. -/
theorem zand_ff (x : Int) : 0 ≤ zand x 255 ∧ zand x 255 ≤ 255 := by
  unfold zand
  show 0 ≤ (Int32.ofInt x &&& Int32.ofInt 255).toBitVec.toInt ∧ (Int32.ofInt x &&& Int32.ofInt 255).toBitVec.toInt ≤ 255
  rw [Int32.toBitVec_and]
  generalize (Int32.ofInt x).toBitVec = b
  have h : (b &&& (Int32.ofInt 255).toBitVec).toNat ≤ 255 := by
    rw [BitVec.toNat_and]
    exact Nat.le_trans Nat.and_le_right (by decide)
  rw [BitVec.toInt_eq_toNat_of_lt (by omega)]
  omega
def zb4 (a i : Int) : Int := zand (zshr a (24 - 8 * i)) 255
def zPtp : Int → Int → Prop := fun a k => a = 3 ∨ a = 2 ∧ k = 1
/-- four bytes more -/
theorem c_taddL {G : zG} {h sl : Nat} (hsl : 1 ≤ sl) {a n : Int} {M0 : zM} {Q : Int → zM → Prop} (hn : 0 ≤ n ∧ n + 4 ≤ 1600) (q : ∀ M', zSm zPtp M0 M' → M' 2 1 = n + 4 → (∀ j : Int, 0 ≤ j → j < 4 → M' 3 (n + j) = zb4 a j) → (∀ j : Int, j < n → M' 3 j = M0 3 j) → Q 0 M') :
    ∀ (d i : Nat) {M : zM} {u : Nat × Nat × Nat × Nat}, d + i = 4 → zSm zPtp M0 M → M 2 1 = n + i → (∀ j : Int, 0 ≤ j → j < (i : Int) → M 3 (n + j) = zb4 a j) → (∀ j : Int, j < n → M 3 j = M0 3 j) → zX G (y_Tape_add, h, sl) u 3 [(0, (2, 2)), (1, (0, a)), (2, (0, 24 - 8 * (i : Int)))] [] M Q
  | 0, i, M, u, e, hM, h1, hr, ho => by
    have : i = 4 := by omega
    subst this
    exact B_Tape_add_3 hsl ⟨fun _ => q M hM h1 hr ho, fun g => absurd (by omega) g⟩
  | d + 1, i, M, u, e, hM, h1, hr, ho => by
    refine B_Tape_add_3 hsl ⟨fun g => absurd g (by omega), fun _ => ⟨fun g => absurd g (by omega), fun _ => ?_⟩⟩
    rw [h1]
    have e1 : ∀ v, (zwr M 3 (n + (i : Int)) v) 2 1 = n + i := fun v => by rw [zwr_o _ (by decide)]; exact h1
    rw [e1]
    refine ⟨by omega, by unfold zI; omega, by unfold zI; omega, ?_⟩
    have := c_taddL (G := G) (h := h) (Q := Q) hsl hn q d (i + 1) (M := zwr (zwr M 3 (n + i) (zand (zshr a (24 - 8 * (i : Int))) 255)) 2 1 (n + i + 1)) (u := u) (by omega) ((hM.wr (Or.inl rfl)).wr (Or.inr ⟨rfl, rfl⟩)) (by rw [zwr_s]; omega) (fun j a b => ?_) (fun j a => ?_)
    · rw [zcs, show 24 - 8 * ((i : Int) + 1) = 24 - 8 * (i : Int) + -8 from by omega] at this
      exact this
    · rw [zwr_o _ (by decide)]
      by_cases c : j = i
      · subst c
        rw [zwr_s]; rfl
      · rw [zwr_k _ (by omega)]
        exact hr j a (by omega)
    · rw [zwr_o _ (by decide), zwr_k _ (by omega)]
      exact ho j a
theorem c_tadd {G : zG} {h sl : Nat} (hsl : 1 ≤ sl) {a n : Int} {M : zM} {Q : Int → zM → Prop} (h1 : M 2 1 = n) (hn : 0 ≤ n ∧ n + 4 ≤ 1600) (q : ∀ M', zSm zPtp M M' → M' 2 1 = n + 4 → (∀ j : Int, 0 ≤ j → j < 4 → M' 3 (n + j) = zb4 a j) → (∀ j : Int, j < n → M' 3 j = M 3 j) → Q 0 M') : zCt G h sl 0 0 y_Tape_add [(2, 2), (0, a)] M Q :=
  E_Tape_add hsl (c_taddL (M0 := M) hsl hn q 4 0 rfl (zSm.refl _ _) (by rw [h1]; omega) (fun j a b => absurd b (by omega)) (fun j a => rfl))
def zwd (a b c d e k : Int) : Int := if k < 4 then a else if k < 8 then b else if k < 12 then c else if k < 16 then d else e
/-- the tape's bytes with twenty more -/
def zfed (n : Int) (B : Int → Int) (a b c d e : Int) : Int → Int := fun j => if j < n then B j else zb4 (zwd a b c d e (j - n)) ((j - n) % 4)
def zPrf (o : Int) : Int → Int → Prop := fun a _ => a = o
theorem zAr.inc {o : Int} {Rf : Int → Int} {i : Int} {M : zM} (h : zAr M o 6 Rf) (h0 : 0 ≤ i) (h6 : i < 6) : zAr (zwr M o i (M o i + 1)) o 6 (zup Rf i (Rf i + 1)) := fun k a b => by
  by_cases c : k = i
  · subst c; rw [zwr_s, zup_s, h k a b]
  · rw [zwr_k _ c, zup_o _ _ c]; exact h k a b
theorem c_none {G : zG} {h sl : Nat} (hsl : 1 ≤ sl) {i : Int} {Rf : Int → Int} {M : zM} {Q : Int → zM → Prop} (h0 : 0 ≤ i) (h6 : i < 6) (hR : zAr M 78 6 Rf) (hb : 0 ≤ Rf i ∧ Rf i ≤ 100000) (q : ∀ M', zSm (zPrf 78) M M' → zAr M' 78 6 (zup Rf i (Rf i + 1)) → Q (-1) M') : zCt G h sl 0 0 y_Zt_none [(2, 1), (0, i)] M Q :=
  E_Zt_none hsl ⟨⟨h0, h6⟩, by rw [hR i h0 h6]; unfold zI; omega, q _ ((zSm.refl _ M).wr rfl) (hR.inc h0 h6)⟩
theorem c_refused {G : zG} {h sl : Nat} (hsl : 1 ≤ sl) {i : Int} {Rf : Int → Int} {M : zM} {Q : Int → zM → Prop} (h0 : 0 ≤ i) (h6 : i < 6) (hR : zAr M 78 6 Rf) (hb : 0 ≤ Rf i ∧ Rf i ≤ 100000) (q : ∀ M', zSm (zPrf 78) M M' → zAr M' 78 6 (zup Rf i (Rf i + 1)) → Q 0 M') : zCt G h sl 0 0 y_Zt_refused [(2, 1), (0, i)] M Q :=
  E_Zt_refused hsl ⟨⟨h0, h6⟩, by rw [hR i h0 h6]; unfold zI; omega, q _ ((zSm.refl _ M).wr rfl) (hR.inc h0 h6)⟩
theorem m_refuses {G : zG} {h sl : Nat} (hsl : 2 ≤ sl) {i : Int} {Rf : Int → Int} {M : zM} {Q : Int → zM → Prop} (h0 : 0 ≤ i) (h6 : i < 6) (hR : zAr M 127 6 Rf) (hb : 0 ≤ Rf i ∧ Rf i ≤ 100000) (q : ∀ M', zSm (zPrf 127) M M' → zAr M' 127 6 (zup Rf i (Rf i + 1)) → Q (-1) M') : zCt G h sl 0 0 y_Md_refuses [(2, 125), (0, i)] M Q :=
  E_Md_refuses hsl ⟨⟨h0, h6⟩, by rw [hR i h0 h6]; unfold zI; omega, q _ ((zSm.refl _ M).wr rfl) (hR.inc h0 h6)⟩
theorem m_isRefused {G : zG} {h sl : Nat} (hsl : 2 ≤ sl) {i : Int} {Rf : Int → Int} {M : zM} {Q : Int → zM → Prop} (h0 : 0 ≤ i) (h6 : i < 6) (hR : zAr M 127 6 Rf) (hb : 0 ≤ Rf i ∧ Rf i ≤ 100000) (q : ∀ M', zSm (zPrf 127) M M' → zAr M' 127 6 (zup Rf i (Rf i + 1)) → Q 0 M') : zCt G h sl 0 0 y_Md_isRefused [(2, 125), (0, i)] M Q :=
  E_Md_isRefused hsl ⟨⟨h0, h6⟩, by rw [hR i h0 h6]; unfold zI; omega, q _ ((zSm.refl _ M).wr rfl) (hR.inc h0 h6)⟩
/-- the class's tape, the Model's -/
def zTp (n : Int) (B : Int → Int) (M : zM) : Prop := M 2 1 = n ∧ zAr M 3 n B
def zTq (n : Int) (B : Int → Int) (M : zM) : Prop := M 125 1 = n ∧ zAr M 126 n B
/-- a tape: at most 1600 bytes -/
def zBt (n : Int) (B : Int → Int) : Prop := (0 ≤ n ∧ n ≤ 1600) ∧ ∀ k, 0 ≤ k → k < n → 0 ≤ B k ∧ B k ≤ 255
theorem zBt.fed {n a b c d e : Int} {B : Int → Int} (h : zBt n B) (hn : n + 20 ≤ 1600) : zBt (n + 20) (zfed n B a b c d e) := ⟨by have := h.1; omega, fun k k0 kn => by
  unfold zfed
  split
  · exact h.2 k k0 (by omega)
  · exact zand_ff _⟩
theorem zBt.end {n m : Int} {B : Int → Int} (h : zBt n B) (h0 : 0 ≤ m) (hm : m ≤ n) : zBt m B := ⟨by have := h.1; omega, fun k k0 kn => h.2 k k0 (by omega)⟩
theorem c_feed {G : zG} {h sl : Nat} (hsl : 1 ≤ sl) {a b c d e n : Int} {B Rf : Int → Int} {M : zM} {Q : Int → zM → Prop} (hB : zBt n B) (ht : zTp n B M) (hR : zAr M 78 6 Rf) (hb : 0 ≤ Rf 0 ∧ Rf 0 ≤ 100000)
    (q1 : n + 20 ≤ 1600 → ∀ M', zSm zPtp M M' → zTp (n + 20) (zfed n B a b c d e) M' → Q (n + 20) M') (q0 : ¬ n + 20 ≤ 1600 → ∀ M', zSm (zPrf 78) M M' → zAr M' 78 6 (zup Rf 0 (Rf 0 + 1)) → Q (-1) M') : zCt G (h + 1) sl 0 0 y_Zt_feed [(2, 1), (0, a), (0, b), (0, c), (0, d), (0, e)] M Q := by
  have h1 := hB.1
  refine E_Zt_feed hsl ?_
  rw [ht.1]
  refine ⟨by unfold zI; omega, fun g => ?_, fun g => c_none hsl (by decide) (by decide) hR hb (q0 g)⟩
  refine c_tadd hsl ht.1 (by omega) (fun M1 s1 l1 r1 o1 => c_tadd hsl l1 (by omega) (fun M2 s2 l2 r2 o2 => c_tadd hsl l2 (by omega) (fun M3 s3 l3 r3 o3 => c_tadd hsl l3 (by omega) (fun M4 s4 l4 r4 o4 => c_tadd hsl l4 (by omega) (fun M5 s5 l5 r5 o5 => ?_)))))
  rw [l5, show n + 4 + 4 + 4 + 4 + 4 = n + 20 from by omega]
  refine q1 g M5 ((((s1.trans s2).trans s3).trans s4).trans s5) ⟨by rw [l5]; omega, fun k k0 kn => ?_⟩
  have key : ∀ (x y j : Int) (Mx : zM), (∀ j : Int, 0 ≤ j → j < 4 → Mx 3 (y + j) = zb4 x j) → y ≤ k → k < y + 4 → (y - n) % 4 = 0 → zwd a b c d e (k - n) = x → Mx 3 k = zb4 (zwd a b c d e (k - n)) ((k - n) % 4) := fun x y j Mx hr a1 a2 a3 a4 => by
    have := hr (k - y) (by omega) (by omega)
    rw [show y + (k - y) = k from by omega] at this
    rw [this, a4, show (k - n) % 4 = k - y from by omega]
  unfold zfed
  by_cases c0 : k < n
  · rw [if_pos c0, o5 _ (by omega), o4 _ (by omega), o3 _ (by omega), o2 _ (by omega), o1 _ (by omega)]
    exact ht.2 k k0 c0
  rw [if_neg c0]
  by_cases c1 : k < n + 4
  · rw [o5 _ (by omega), o4 _ (by omega), o3 _ (by omega), o2 _ (by omega)]
    exact key _ _ 0 M1 r1 (by omega) (by omega) (by omega) (by unfold zwd; rw [if_pos (by omega)])
  by_cases c2 : k < n + 8
  · rw [o5 _ (by omega), o4 _ (by omega), o3 _ (by omega)]
    exact key _ _ 0 M2 r2 (by omega) (by omega) (by omega) (by unfold zwd; rw [if_neg (by omega), if_pos (by omega)])
  by_cases c3 : k < n + 12
  · rw [o5 _ (by omega), o4 _ (by omega)]
    exact key _ _ 0 M3 r3 (by omega) (by omega) (by omega) (by unfold zwd; rw [if_neg (by omega), if_neg (by omega), if_pos (by omega)])
  by_cases c4 : k < n + 16
  · rw [o5 _ (by omega)]
    exact key _ _ 0 M4 r4 (by omega) (by omega) (by omega) (by unfold zwd; rw [if_neg (by omega), if_neg (by omega), if_neg (by omega), if_pos (by omega)])
  · exact key _ _ 0 M5 r5 (by omega) (by omega) (by omega) (by unfold zwd; rw [if_neg (by omega), if_neg (by omega), if_neg (by omega), if_neg (by omega)])
theorem c_end {G : zG} {h sl : Nat} (hsl : 1 ≤ sl) {m n : Int} {B Rf : Int → Int} {M : zM} {Q : Int → zM → Prop} (ht : zTp n B M) (hR : zAr M 78 6 Rf) (hb : 0 ≤ Rf 0 ∧ Rf 0 ≤ 100000)
    (q1 : 0 ≤ m → m ≤ n → ∀ M', zSm zPtp M M' → zTp m B M' → Q 1 M') (q0 : ¬ (0 ≤ m ∧ m ≤ n) → ∀ M', zSm (zPrf 78) M M' → zAr M' 78 6 (zup Rf 0 (Rf 0 + 1)) → Q 0 M') : zCt G (h + 1) sl 0 0 y_Zt_end [(2, 1), (0, m)] M Q := by
  refine E_Zt_end hsl ?_
  rw [ht.1]
  exact ⟨fun g => B_Zt_end_15 hsl (c_refused hsl (by decide) (by decide) hR hb (q0 (by omega))), fun g => ⟨fun g2 => q1 (by omega) g2 _ ((zSm.refl _ M).wr (Or.inr ⟨rfl, rfl⟩)) ⟨zwr_s _ _ _ _, fun k a b => by rw [zwr_o _ (by decide)]; exact ht.2 k a (by omega)⟩, fun g2 => B_Zt_end_15 hsl (c_refused hsl (by decide) (by decide) hR hb (q0 (by omega)))⟩⟩
def zPtq : Int → Int → Prop := fun a k => a = 126 ∨ a = 125 ∧ k = 1
theorem m_feedL {G : zG} {h sl : Nat} (hsl : 2 ≤ sl) {a b c d e n : Int} {B : Int → Int} {M0 : zM} {Q : Int → zM → Prop} (hn : 0 ≤ n ∧ n + 20 ≤ 1600) (q : ∀ M', zSm zPtq M0 M' → zTq (n + 20) (zfed n B a b c d e) M' → Q (n + 20) M') :
    ∀ (f i : Nat) {M : zM} {u : Nat × Nat × Nat × Nat}, f + i = 20 → zSm zPtq M0 M → zTq (n + i) (zfed n B a b c d e) M → zX G (y_Md_feed, h, sl) u 28 [(0, (2, 125)), (1, (0, a)), (2, (0, b)), (3, (0, c)), (4, (0, d)), (5, (0, e)), (6, (0, (i : Int)))] [] M Q
  | 0, i, M, u, x, hM, ht => by
    have : i = 20 := by omega
    subst this
    refine B_Md_feed_28 hsl ⟨fun _ => ?_, fun g => absurd (by omega) g⟩
    rw [ht.1]
    exact q M hM ht
  | f + 1, i, M, u, x, hM, ht => by
    have fin : ∀ w, w = zwd a b c d e i → zX G (y_Md_feed, h, sl) u 81 [(0, (2, 125)), (1, (0, a)), (2, (0, b)), (3, (0, c)), (4, (0, d)), (5, (0, e)), (6, (0, (i : Int)))] [(0, w)] M Q := fun w hw => by
      have et : Int.tmod (i : Int) 4 = (i : Int) % 4 := Int.tmod_eq_emod_of_nonneg (by omega)
      refine B_Md_feed_81 hsl ?_
      rw [ht.1, et]
      have e1 : ∀ v, (zwr M 126 (n + (i : Int)) v) 125 1 = n + i := fun v => by rw [zwr_o _ (by decide)]; exact ht.1
      rw [e1]
      refine ⟨by unfold zI; omega, by unfold zI; omega, by omega, by unfold zI; omega, by unfold zI; omega, ?_⟩
      have := m_feedL (G := G) (h := h) (Q := Q) hsl hn q f (i + 1) (M := zwr (zwr M 126 (n + i) (zand (zshr w (8 * (3 - (i : Int) % 4))) 255)) 125 1 (n + i + 1)) (u := u) (by omega) ((hM.wr (Or.inl rfl)).wr (Or.inr ⟨rfl, rfl⟩)) ⟨by rw [zwr_s]; omega, fun k a b => ?_⟩
      · rw [zcs] at this
        exact this
      · rw [zwr_o _ (by decide)]
        by_cases ck : k = n + i
        · subst ck
          rw [zwr_s]
          unfold zfed zb4
          rw [if_neg (by omega), show n + (i : Int) - n = i from by omega, ← hw, show 24 - 8 * ((i : Int) % 4) = 8 * (3 - (i : Int) % 4) from by omega]
        · rw [zwr_k _ ck]
          exact ht.2 k a (by omega)
    unfold zwd at fin
    refine B_Md_feed_28 hsl ⟨fun g => absurd g (by omega), fun _ => ⟨fun g1 => ⟨fun g2 => ⟨fun g3 => ⟨fun g4 => fin _ ?_, fun g4 => fin _ ?_⟩, fun g3 => fin _ ?_⟩, fun g2 => fin _ ?_⟩, fun g1 => fin _ ?_⟩⟩
    · rw [if_neg (by omega), if_neg (by omega), if_neg (by omega), if_neg (by omega)]
    · rw [if_neg (by omega), if_neg (by omega), if_neg (by omega), if_pos (by omega)]
    · rw [if_neg (by omega), if_neg (by omega), if_pos (by omega)]
    · rw [if_neg (by omega), if_pos (by omega)]
    · rw [if_pos (by omega)]
theorem m_feed {G : zG} {h sl : Nat} (hsl : 2 ≤ sl) {a b c d e n : Int} {B Rf : Int → Int} {M : zM} {Q : Int → zM → Prop} (hB : zBt n B) (ht : zTq n B M) (hR : zAr M 127 6 Rf) (hb : 0 ≤ Rf 0 ∧ Rf 0 ≤ 100000)
    (q1 : n + 20 ≤ 1600 → ∀ M', zSm zPtq M M' → zTq (n + 20) (zfed n B a b c d e) M' → Q (n + 20) M') (q0 : ¬ n + 20 ≤ 1600 → ∀ M', zSm (zPrf 127) M M' → zAr M' 127 6 (zup Rf 0 (Rf 0 + 1)) → Q (-1) M') : zCt G h sl 0 0 y_Md_feed [(2, 125), (0, a), (0, b), (0, c), (0, d), (0, e)] M Q := by
  have h1 := hB.1
  refine E_Md_feed hsl ?_
  rw [ht.1]
  refine ⟨by unfold zI; omega, fun g => m_feedL (M0 := M) (n := n) (B := B) hsl (by omega) (q1 g) 20 0 rfl (zSm.refl _ _) ⟨by rw [ht.1]; omega, fun k k0 kn => ?_⟩, fun g => ⟨by rw [hR 0 (by decide) (by decide)]; unfold zI; omega, q0 g _ ((zSm.refl _ M).wr rfl) (hR.inc (by decide) (by decide))⟩⟩
  unfold zfed
  rw [if_pos (by omega)]
  exact ht.2 k k0 (by omega)
theorem m_end {G : zG} {h sl : Nat} (hsl : 2 ≤ sl) {m n : Int} {B Rf : Int → Int} {M : zM} {Q : Int → zM → Prop} (ht : zTq n B M) (hR : zAr M 127 6 Rf) (hb : 0 ≤ Rf 0 ∧ Rf 0 ≤ 100000)
    (q1 : 0 ≤ m → m ≤ n → ∀ M', zSm zPtq M M' → zTq m B M' → Q 1 M') (q0 : ¬ (0 ≤ m ∧ m ≤ n) → ∀ M', zSm (zPrf 127) M M' → zAr M' 127 6 (zup Rf 0 (Rf 0 + 1)) → Q 0 M') : zCt G h sl 0 0 y_Md_end [(2, 125), (0, m)] M Q := by
  have f : ¬ (0 ≤ m ∧ m ≤ n) → ∀ u, zX G (y_Md_end, h, sl) u 12 [(0, (2, 125))] [] M Q := fun g u => B_Md_end_12 hsl ⟨by rw [hR 0 (by decide) (by decide)]; unfold zI; omega, q0 g _ ((zSm.refl _ M).wr rfl) (hR.inc (by decide) (by decide))⟩
  refine E_Md_end hsl ?_
  rw [ht.1]
  exact ⟨fun g => f (by omega) _, fun g => ⟨fun g2 => q1 (by omega) g2 _ ((zSm.refl _ M).wr (Or.inr ⟨rfl, rfl⟩)) ⟨zwr_s _ _ _ _, fun k a b => by rw [zwr_o _ (by decide)]; exact ht.2 k a (by omega)⟩, fun g2 => f (by omega) _⟩⟩
theorem c_seed {G : zG} {h sl : Nat} (hsl : 1 ≤ sl) {v : Int} {Rf : Int → Int} {M : zM} {Q : Int → zM → Prop} (hR : zAr M 78 6 Rf) (hb : 0 ≤ Rf 5 ∧ Rf 5 ≤ 100000) (q1 : 0 ≤ v → Q 1 (zwr M 1 16 v)) (q0 : ¬ 0 ≤ v → ∀ M', zSm (zPrf 78) M M' → zAr M' 78 6 (zup Rf 5 (Rf 5 + 1)) → Q 0 M') : zCt G (h + 1) sl 0 0 y_Zt_seed [(2, 1), (0, v)] M Q :=
  E_Zt_seed hsl ⟨q1, fun g => c_refused hsl (by decide) (by decide) hR hb (q0 g)⟩
theorem m_seed {G : zG} {h sl : Nat} (hsl : 2 ≤ sl) {v : Int} {Rf : Int → Int} {M : zM} {Q : Int → zM → Prop} (hR : zAr M 127 6 Rf) (hb : 0 ≤ Rf 5 ∧ Rf 5 ≤ 100000) (q1 : 0 ≤ v → Q 1 (zwr M 125 68 v)) (q0 : ¬ 0 ≤ v → ∀ M', zSm (zPrf 127) M M' → zAr M' 127 6 (zup Rf 5 (Rf 5 + 1)) → Q 0 M') : zCt G (h + 1) sl 0 0 y_Md_seed [(2, 125), (0, v)] M Q :=
  E_Md_seed hsl ⟨q1, fun g => m_isRefused hsl (by decide) (by decide) hR hb (q0 g)⟩
