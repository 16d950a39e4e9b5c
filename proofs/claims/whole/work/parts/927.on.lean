/-! on(): both sides. -/
def zonv (B : Int → Int) (c : Int) : Int := 65536 * B (2 + 4 * c) + 256 * B (3 + 4 * c) + B (4 + 4 * c) - 1000000
/-- the line that an image tells -/
def zonl (B : Int → Int) (j : Int) : Int := if j = 0 then 256 * B 0 + B 1 else if j ≤ 8 then zonv B (j - 1) else B (5 + 4 * (j - 9))
theorem zonl_0 (B : Int → Int) : zonl B 0 = 256 * B 0 + B 1 := by unfold zonl; rw [if_pos rfl]
theorem zonl_v (B : Int → Int) {c : Int} (c0 : 0 ≤ c) (c8 : c < 8) : zonl B (1 + c) = zonv B c := by
  unfold zonl
  rw [if_neg (by omega), if_pos (by omega), show 1 + c - 1 = c from by omega]
theorem zonl_w (B : Int → Int) {c : Int} (c0 : 0 ≤ c) : zonl B (9 + c) = B (5 + 4 * c) := by
  unfold zonl
  rw [if_neg (by omega), if_neg (by omega), show 9 + c - 9 = c from by omega]
def zon1 (T : zTb) (B : Int → Int) (c : Nat) : Bool := decide (B (5 + 4 * (c : Int)) ≤ (if T.1 c 0 = 0 then 1 else 0)) && decide (if T.1 c 0 = 3 then zonv B c ≤ 1000000 else T.1 c 1 ≤ zonv B c ∧ zonv B c ≤ T.1 c 2)
def zonk (T : zTb) (n : Int) (B : Int → Int) : Prop := n = 3 + 4 * T.1 8 0 ∧ B (2 + 4 * T.1 8 0) = zseal B (2 + 4 * T.1 8 0).toNat ∧ 256 * B 0 + B 1 ≤ 999 ∧ zaq (zon1 T B) (T.1 8 0).toNat 0 = true
theorem zon1_f {T : zTb} {B : Int → Int} {c : Nat} : ¬ zon1 T B c = true ↔ ¬ (B (5 + 4 * (c : Int)) ≤ (if T.1 c 0 = 0 then 1 else 0)) ∨ ¬ (if T.1 c 0 = 3 then zonv B c ≤ 1000000 else T.1 c 1 ≤ zonv B c ∧ zonv B c ≤ T.1 c 2) := by
  unfold zon1
  rw [Bool.and_eq_true, decide_eq_true_eq, decide_eq_true_eq, Classical.not_and_iff_not_or_not]
theorem zon1_t {T : zTb} {B : Int → Int} {c : Nat} : zon1 T B c = true ↔ (B (5 + 4 * (c : Int)) ≤ (if T.1 c 0 = 0 then 1 else 0)) ∧ (if T.1 c 0 = 3 then zonv B c ≤ 1000000 else T.1 c 1 ≤ zonv B c ∧ zonv B c ≤ T.1 c 2) := by
  unfold zon1
  rw [Bool.and_eq_true, decide_eq_true_eq, decide_eq_true_eq]
theorem zon_pu {T : zTb} {n : Int} {B : Int → Int} (hT : zTok T) (hB : zBt n B) (h : zonk T n B) : zPu T (zonl B) := by
  obtain ⟨h1, h2, h3, h4⟩ := h
  have hn := hT.1
  have hn8 := hT.2.1
  rw [zaq_iff] at h4
  have b0 := hB.2 0 (by decide) (by omega)
  have b1 := hB.2 1 (by decide) (by omega)
  refine ⟨hT, ⟨by rw [zonl_0]; omega, by rw [zonl_0]; omega, fun c c0 cn => ?_⟩, by rw [zonl_0]; exact h3⟩
  have hk := zon1_t.mp (h4 c.toNat (by omega) (by omega))
  rw [show ((c.toNat : Nat) : Int) = c from by omega] at hk
  rw [zonl_v B c0 (by omega), zonl_w B c0]
  have b2 := hB.2 (2 + 4 * c) (by omega) (by omega)
  have b3 := hB.2 (3 + 4 * c) (by omega) (by omega)
  have b4 := hB.2 (4 + 4 * c) (by omega) (by omega)
  have b5 := hB.2 (5 + 4 * c) (by omega) (by omega)
  obtain ⟨k1, k2⟩ := hk
  have hv : -1000000 ≤ zonv B c := by unfold zonv; omega
  unfold zCok
  by_cases c3 : T.1 c 0 = 3
  · rw [if_pos c3] at k2 ⊢
    rw [if_neg (by omega)] at k1
    exact ⟨⟨hv, k2⟩, by omega⟩
  · rw [if_neg c3] at k2 ⊢
    refine ⟨k2, ?_⟩
    by_cases cz : T.1 c 0 = 0
    · rw [if_pos cz] at k1 ⊢
      omega
    · rw [if_neg cz] at k1 ⊢
      omega
theorem c_onL {G : zG} {h sl : Nat} (hsl : 1 ≤ sl) {T : zTb} {L : Int → Int} {t n : Int} {B : Int → Int} {M0 : zM} {Q : Int → zM → Prop} (hP : zPu T L) (hC0 : zCk T L t M0) (hB : zBt n B) (hb0 : zTp n B M0) (hn : n = 3 + 4 * T.1 8 0) :
    ∀ (f k : Nat) {M : zM} {u : Nat × Nat × Nat × Nat}, f + k = (T.1 8 0).toNat → zSm (zPLn 6) M0 M → zLc k (zonl B) M 6 → (zaq (zon1 T B) f k = true → ∀ M', zSm (zPLn 6) M0 M' → zLc (T.1 8 0) (zonl B) M' 6 → Q 1 M') → (¬ zaq (zon1 T B) f k = true → ∀ M', zSm (zPLn 6) M0 M' → Q 0 M') → zX G (y_Zt_readImage, h + 1, sl) u 96 [(0, (2, 1)), (1, (2, 6)), (3, (0, (k : Int)))] [] M Q
  | 0, k, M, u, e, hM, hl, q1, q0 => by
    have h0 := hP.1.1
    have hC : zCk T L t M := hC0.fr hP.1 (fun a j p => hM a j (by have := hC0.1; unfold zdCk at p; unfold zPLn; omega))
    refine B_Zt_readImage_96 hsl ⟨hC.k8, fun _ => q1 rfl M hM ?_, fun g => absurd (by rw [hC.n]; omega) g⟩
    rw [show T.1 8 0 = (k : Int) from by omega]
    exact hl
  | f + 1, k, M, u, e, hM, hl, q1, q0 => by
    have h0 := hP.1.1
    have hn8 := hP.1.2.1
    have hC : zCk T L t M := hC0.fr hP.1 (fun a j p => hM a j (by have := hC0.1; unfold zdCk at p; unfold zPLn; omega))
    have hb : zTp n B M := ⟨by rw [hM _ _ (by unfold zPLn; omega)]; exact hb0.1, fun i a b => by rw [hM _ _ (by unfold zPLn; omega)]; exact hb0.2 i a b⟩
    have hkc := (zs_cols hC.kt (j := (k : Int)) (by omega) (by omega)).2
    obtain ⟨⟨a1, a2, a3, _⟩, _⟩ := hC.c1 (c := (k : Int)) (by omega) (by omega)
    have b2 := hB.2 (2 + 4 * (k : Int)) (by omega) (by omega)
    have b3 := hB.2 (2 + 4 * (k : Int) + 1) (by omega) (by omega)
    have b4 := hB.2 (2 + 4 * (k : Int) + 2) (by omega) (by omega)
    have b5 := hB.2 (2 + 4 * (k : Int) + 3) (by omega) (by omega)
    have ev : (256 * B (2 + 4 * (k : Int)) + B (2 + 4 * (k : Int) + 1)) * 256 + B (2 + 4 * (k : Int) + 2) - 1000000 = zonv B k := by
      unfold zonv
      rw [show 2 + 4 * (k : Int) + 1 = 3 + 4 * (k : Int) from by omega, show 2 + 4 * (k : Int) + 2 = 4 + 4 * (k : Int) from by omega]
      omega
    have e5 : 2 + 4 * (k : Int) + 3 = 5 + 4 * (k : Int) := by omega
    rw [e5] at b5
    have no : ¬ zon1 T B k = true → Q 0 M := fun g => q0 (by rw [zaq_no g]; decide) M hM
    have hzI : zI (zonv B k) := by rw [← ev]; unfold zI; omega
    -- from 202 on
    have at202 : ∀ (s0 : Int) u', (s0 = 0 → ¬ zon1 T B k = true) → (s0 ≠ 0 → (if T.1 k 0 = 3 then zonv B k ≤ 1000000 else T.1 k 1 ≤ zonv B k ∧ zonv B k ≤ T.1 k 2)) → zX G (y_Zt_readImage, h + 1, sl) u' 202 [(0, (2, 1)), (1, (2, 6)), (3, (0, (k : Int))), (4, (2, t + 7 + 2 * (k : Int))), (6, (0, zonv B k)), (7, (0, B (5 + 4 * (k : Int))))] [(0, s0)] M Q := fun s0 u' h1 h2 => by
      refine B_Zt_readImage_202 hsl ⟨fun g => no (h1 g), fun g => ⟨hkc, ?_⟩⟩
      rw [a1]
      have hc2 := h2 g
      have at224 : ∀ (s1 : Int) u', s1 = (if T.1 k 0 = 0 then 1 else 0) → zX G (y_Zt_readImage, h + 1, sl) u' 224 [(0, (2, 1)), (1, (2, 6)), (3, (0, (k : Int))), (6, (0, zonv B k)), (7, (0, B (5 + 4 * (k : Int))))] [(0, s1), (0, B (5 + 4 * (k : Int)))] M Q := fun s1 u' es1 => by
        have s1v : s1 = 0 ∨ s1 = 1 := by rw [es1]; split <;> simp
        refine B_Zt_readImage_224 hsl ⟨fun g2 => ⟨by decide, by omega, ?_⟩, fun g2 => no (zon1_f.mpr (Or.inl (by rw [← es1]; exact g2)))⟩
        have good : zon1 T B k = true := zon1_t.mpr ⟨by rw [← es1]; exact g2, hc2⟩
        rw [zaq_yes good] at q1 q0
        have s2 : zSm (zPLn 6) M (zwr M (6 + 1) k (zonv B k)) := (zSm.refl _ M).wr (Or.inr rfl)
        have hl2 : zLc k (zonl B) (zwr M (6 + 1) (k : Int) (zonv B k)) 6 := ⟨by rw [zwr_o _ (by decide)]; exact hl.1, by rw [zwr_o _ (by decide)]; exact hl.2.1, fun c c0 cn => by rw [zwr_k _ (by omega), zwr_o _ (by decide)]; exact hl.2.2 c c0 cn⟩
        have hl3 := hl2.more (by omega : k < 8)
        have fin : ∀ (v : Int) u'', v = B (5 + 4 * (k : Int)) → (v = 0 ∨ v = 1) → zX G (y_Zt_readImage, h + 1, sl) u'' 250 [(0, (2, 1)), (1, (2, 6)), (3, (0, (k : Int)))] [(0, v), (0, (k : Int)), (2, 6)] (zwr M (6 + 1) (k : Int) (zonv B k)) Q := fun v u'' ev2 hv => by
          refine B_Zt_readImage_250 hsl ⟨by decide, c_go hsl (by decide) hl3 (by omega) (by omega) (by omega) hv (fun w hw => ⟨by unfold zI; omega, ?_⟩)⟩
          have := c_onL (G := G) (h := h) (Q := Q) hsl hP hC0 hB hb0 hn f (k + 1) (M := zwr (zwr M (6 + 1) (k : Int) (zonv B k)) 6 2 w) (u := u'') (by omega) ((hM.trans s2).wr (Or.inl ⟨rfl, Or.inr rfl⟩)) (by
            rw [zcs]
            refine hw.ext (Int.le_refl _) (by rw [zup_o _ _ (by omega), zup_o _ _ (by omega), zup_o _ _ (by omega)]) (fun c c0 cn => ?_)
            by_cases cc : c = (k : Int)
            · subst cc
              rw [zup_o _ _ (by omega), zup_o _ _ (by omega), zup_s, zup_s, zwr_s, zonl_v B (by omega) (by omega), zonl_w B (by omega), ev2]
              exact ⟨rfl, rfl⟩
            · rw [zup_o _ _ (by omega), zup_o _ _ (by omega), zup_o _ _ (by omega), zup_o _ _ (by omega), zup_o _ _ (by omega), zup_o _ _ (by omega)]
              exact ⟨rfl, rfl⟩) q1 q0
          rw [zcs] at this
          exact this
        exact ⟨fun g3 => fin 0 u' (by omega) (Or.inl rfl), fun g3 => fin 1 u' (by omega) (Or.inr rfl)⟩
      refine ⟨fun g2 => at224 0 u' (by rw [if_neg g2]), fun g2 => at224 1 u' (by rw [if_pos (by omega)])⟩
    refine B_Zt_readImage_96 hsl ⟨hC.k8, fun g => absurd g (by rw [hC.n]; omega), fun _ => ⟨by omega, by unfold zI; omega, by unfold zI; omega, c_pair hsl hB hb (by omega) (by omega) ?_⟩⟩
    rw [hb.2 _ (by omega) (by omega), hb.2 _ (by omega) (by omega), ev, e5]
    refine ⟨by unfold zI; omega, by unfold zI; omega, by omega, by unfold zI; omega, hzI, by unfold zI; omega, by omega, ?_⟩
    rw [hC.2.1]
    refine E_Column_moves hsl ⟨hkc, ?_⟩
    rw [a1]
    refine ⟨fun g => ⟨fun _ => ⟨fun g2 => at202 0 _ (fun _ => zon1_f.mpr (Or.inr (by rw [if_pos g]; omega))) (fun y => absurd rfl y), fun g2 => at202 1 _ (fun y => absurd y (by decide)) (fun _ => by rw [if_pos g]; omega)⟩, fun y => absurd rfl y⟩, fun g => ⟨fun y => absurd y (by decide), fun _ => E_Column_canTell hsl ⟨hkc, ?_⟩⟩⟩
    rw [a2, a3]
    exact ⟨fun g2 => at202 0 _ (fun _ => zon1_f.mpr (Or.inr (by rw [if_neg g]; omega))) (fun y => absurd rfl y), fun g2 => ⟨fun g3 => at202 0 _ (fun _ => zon1_f.mpr (Or.inr (by rw [if_neg g]; omega))) (fun y => absurd rfl y), fun g3 => at202 1 _ (fun y => absurd y (by decide)) (fun _ => by rw [if_neg g]; omega)⟩⟩
theorem c_readImage {G : zG} {h sl : Nat} (hsl : 1 ≤ sl) {T : zTb} {L : Int → Int} {t n : Int} {B : Int → Int} {M : zM} {Q : Int → zM → Prop} (hP : zPu T L) (hC : zCk T L t M) (hB : zBt n B) (hb : zTp n B M)
    (q1 : zonk T n B → ∀ M', zSm (zPLn 6) M M' → zLc (T.1 8 0) (zonl B) M' 6 → Q 1 M') (q0 : ¬ zonk T n B → ∀ M', zSm (zPLn 6) M M' → Q 0 M') : zCt G (h + 1) sl 0 0 y_Zt_readImage [(2, 1), (2, 6)] M Q := by
  have hn := hP.1.1
  have hn8 := hP.1.2.1
  have h1 := hB.1
  refine E_Zt_readImage hsl ⟨hC.k8, ?_⟩
  rw [hC.n, hb.1]
  refine ⟨by unfold zI; omega, by unfold zI; omega, by unfold zI; omega, fun g => q0 (fun x => g (by have := x.1; omega)) M (zSm.refl _ _), fun g => ⟨by omega, E_Zt_sealOf hsl ?_⟩⟩
  have e3 : (zK 3).2 = 1600 := by decide
  have : zX G (y_Zt_sealOf, h, sl) (0, 0, 0, 0) 6 [(0, (2, 3)), (1, (0, (((2 + 4 * T.1 8 0).toNat : Nat) : Int))), (2, (0, 181)), (3, (0, 0))] [] M (fun r6 M7 => (M 3 (2 + 4 * T.1 8 0) = r6 → (zI ((M7 3 0) * 256)) ∧ ((zI (((M7 3 0) * 256) + (M7 3 1))) ∧ ((zK 6 = (4, 0)) ∧ ((((zwr (zwr M7 6 1 (((M7 3 0) * 256) + (M7 3 1))) 6 2 0) 6 1) ≤ 999 → zX G (y_Zt_readImage, h + 1, sl) (0, 0, 0, 0) 96 [(0, (2, 1)), (1, (2, 6)), (3, (0, 0))] [] (zwr (zwr M7 6 1 (((M7 3 0) * 256) + (M7 3 1))) 6 2 0) Q) ∧ (¬ ((zwr (zwr M7 6 1 (((M7 3 0) * 256) + (M7 3 1))) 6 2 0) 6 1) ≤ 999 → Q 0 (zwr (zwr M7 6 1 (((M7 3 0) * 256) + (M7 3 1))) 6 2 0)))))) ∧ (¬ M 3 (2 + 4 * T.1 8 0) = r6 → Q 0 M7)) := by
    have b0 := hB.2 0 (by decide) (by omega)
    have b1 := hB.2 1 (by decide) (by omega)
    refine c_sealL (o := 3) (n := (2 + 4 * T.1 8 0).toNat) (f := B) hsl (by decide) (by rw [e3]; omega) (by decide) (fun i a b => ⟨hb.2 i a (by omega), hB.2 i a (by omega)⟩) ?_ (2 + 4 * T.1 8 0).toNat 0 (by omega)
    rw [hb.2 _ (by omega) (by omega), hb.2 0 (by decide) (by omega), hb.2 1 (by decide) (by omega)]
    refine ⟨fun g2 => ⟨by unfold zI; omega, by unfold zI; omega, by decide, ?_⟩, fun g2 => q0 (fun x => g2 x.2.1) M (zSm.refl _ _)⟩
    have s1 : zSm (zPLn 6) M (zwr (zwr M 6 1 (B 0 * 256 + B 1)) 6 2 0) := ((zSm.refl _ M).wr (Or.inl ⟨rfl, Or.inl rfl⟩)).wr (Or.inl ⟨rfl, Or.inr rfl⟩)
    rw [zwr_k _ (by decide), zwr_s]
    refine ⟨fun g3 => ?_, fun g3 => q0 (fun x => g3 (by have := x.2.2.1; omega)) _ s1⟩
    refine c_onL (M0 := M) (t := t) (n := n) (B := B) hsl hP hC hB hb (by omega) (T.1 8 0).toNat 0 (by omega) s1 ⟨?_, ?_, fun c c0 cn => absurd cn (by omega)⟩ (fun z => q1 ⟨by omega, g2, by omega, z⟩) (fun z => q0 (fun x => z x.2.2.2))
    · rw [zwr_k _ (by decide), zwr_s, zonl_0]; omega
    · rw [zwr_s]; omega
  rw [show (((2 + 4 * T.1 8 0).toNat : Nat) : Int) = 2 + 4 * T.1 8 0 from by omega] at this
  exact this
/-- all that on() may change in the class -/
def zPon (t : Int) : Int → Int → Prop := fun a k => zPac t a k ∨ a = 2 ∧ k = 1 ∨ a = 6 ∧ (k = 1 ∨ k = 2) ∨ a = 7 ∨ a = 78
theorem c_on {G : zG} {h sl : Nat} (hsl : 1 ≤ sl) {T : zTb} {L : Int → Int} {t n ac j : Int} {K : zKp3} {R : Int → Int → Int} {B Rf : Int → Int} {M : zM} {Q : Int → zM → Prop} (hP : zPu T L) (hC : zCk T L t M) (hH : zHc T K R ac j M) (hB : zBt n B) (hb : zTp n B M) (hR : zAr M 78 6 Rf) (hbb : 0 ≤ Rf 5 ∧ Rf 5 ≤ 100000)
    (q1 : zonk T n B → ∀ M', zSm (zPon t) M M' → zTp 0 B M' → zCk T (zonl B) t M' → zHc T (0, K.2.1, K.2.2) R 0 j M' → zAr M' 78 6 Rf → M' 1 16 = M 1 16 → Q 1 M')
    (q0 : ¬ zonk T n B → ∀ M', zSm (fun a k => a = 2 ∧ k = 1 ∨ a = 6 ∧ (k = 1 ∨ k = 2) ∨ a = 7 ∨ a = 78) M M' → zTp 0 B M' → zCk T L t M' → zAr M' 78 6 (zup Rf 5 (Rf 5 + 1)) → Q 0 M') : zCt G (h + 7) sl 0 0 y_Zt_on [(2, 1)] M Q := by
  have ht := hC.1
  have hn8 := hP.1.2.1
  refine E_Zt_on hsl (c_readImage (h := h + 5) hsl hP hC hB hb (fun hk M1 hM1 hl1 => ⟨fun _ => ?_, fun y => absurd (by decide) y⟩) (fun hk M1 hM1 => ⟨fun y => absurd rfl y, fun _ => ?_⟩))
  · have s1 : zSm (zPon t) M (zwr M1 2 1 0) := (hM1.mono (fun a k p => by unfold zPLn at p; unfold zPon; omega)).wr (Or.inr (Or.inl ⟨rfl, rfl⟩))
    have hl2 : zLc (T.1 8 0) (zonl B) (zwr M1 2 1 0) 6 := hl1.fr (zwr_o _ (by decide)) (zwr_o _ (by decide)) (fun k => zwr_o _ (by decide))
    have hC1 : zCk T L t (zwr M1 2 1 0) := hC.fr hP.1 (fun a k p => by rw [zwr_o _ (by unfold zdCk at p; omega), hM1 _ _ (by unfold zdCk at p; unfold zPLn; omega)])
    refine c_copy (h := h + 5) hsl (by decide) (by decide) (by decide) (by decide) (by decide) hn8 hl2 (fun M2 hM2 hl3 => E_History_forget hsl ?_)
    have hC2 : zCw T (zonl B) t (L 0) M2 := hC1.cw.fr hP.1 (fun a k p n1 n2 _ => hM2 a k (by unfold zPLn; omega)) hl3
    have f18 : ∀ a k, a ≠ 18 → (zwr (zwr M2 18 4 0) 18 6 0) a k = M2 a k := fun a k n => by rw [zwr_o _ n, zwr_o _ n]
    have hP' := zon_pu hP.1 hB hk
    refine c_settle hsl hP' (hC2.fr hP.1 (fun a k p _ _ _ => f18 a k (by unfold zdCk at p; omega)) (hl3.fr (f18 _ _ (by decide)) (f18 _ _ (by decide)) (fun k => f18 _ _ (by decide)))) (fun M3 hM3 hC3 => ?_)
    have s2 : zSm (zPon t) M M3 := ((s1.trans (hM2.mono (fun a k p => by unfold zPLn at p; unfold zPon zPac; omega))).trans (((zSm.refl (zPon t) M2).wr (by unfold zPon zPac; omega)).wr (by unfold zPon zPac; omega))).trans (hM3.mono (fun a k p => by unfold zPse at p; unfold zPon zPac; omega))
    have f : ∀ a k, a = 1 ∨ a = 2 ∧ k ≠ 1 ∨ a = 3 ∨ 78 ≤ a ∧ a < 79 → M3 a k = M a k := fun a k p => by
      rw [hM3 a k (by unfold zPse; omega), f18 a k (by omega), hM2 a k (by unfold zPLn; omega), zwr_i, if_neg (by omega), hM1 a k (by unfold zPLn; omega)]
    refine q1 hk M3 s2 ⟨?_, fun i a b => absurd b (by omega)⟩ hC3 ⟨⟨?_, fun i a b => absurd b (by simp only; omega), fun i a b => absurd b (by simp only; omega)⟩, ?_, ?_, fun s hs => absurd hs.2 (by omega)⟩ (hR.fr (fun k => f _ _ (by omega))) (f _ _ (by omega))
    · rw [hM3 _ _ (by unfold zPse; omega), f18 _ _ (by decide), hM2 _ _ (by unfold zPLn; omega), zwr_s]
    · rw [hM3 _ _ (by unfold zPse; omega), zwr_k _ (by decide), zwr_s]
    · rw [hM3 _ _ (by unfold zPse; omega), zwr_k _ (by decide), zwr_k _ (by decide), hM2 _ _ (by unfold zPLn; omega), zwr_o _ (by decide), hM1 _ _ (by unfold zPLn; omega)]
      exact hH.2.1
    · rw [hM3 _ _ (by unfold zPse; omega), zwr_s]
  · refine c_refused hsl (by decide) (by decide) (hR.fr (fun k => by rw [zwr_o _ (by decide), hM1 _ _ (by unfold zPLn; omega)])) hbb (fun M2 hM2 hR2 => ?_)
    have f : ∀ a k, ¬ (a = 2 ∧ k = 1) → ¬ (zPLn 6 a k) → a ≠ 78 → M2 a k = M a k := fun a k n1 n2 n3 => by
      rw [hM2 a k (by unfold zPrf; omega), zwr_i, if_neg n1, hM1 a k n2]
    refine q0 hk M2 (((hM1.mono (fun a k p => by unfold zPLn at p; omega)).wr (Or.inl ⟨rfl, rfl⟩)).trans (hM2.mono (fun a k p => by unfold zPrf at p; omega))) ⟨by rw [hM2 _ _ (by unfold zPrf; omega), zwr_s], fun i a b => absurd b (by omega)⟩ (hC.fr hP.1 (fun a k p => f a k (by unfold zdCk at p; omega) (by unfold zdCk at p; unfold zPLn; omega) (by unfold zdCk at p; omega))) hR2
theorem m_twoAt {G : zG} {h sl : Nat} (hsl : 2 ≤ sl) {n k : Int} {B : Int → Int} {M : zM} {Q : Int → zM → Prop} (hB : zBt n B) (hb : zAr M 126 n B) (k0 : 0 ≤ k) (kn : k + 1 < n) (q : Q (256 * B k + B (k + 1)) M) : zCt G h sl 0 0 y_Md_twoAt [(2, 125), (0, k)] M Q := by
  have h1 := hB.1
  have b1 := hB.2 k k0 (by omega)
  have b2 := hB.2 (k + 1) (by omega) (by omega)
  refine E_Md_twoAt hsl ?_
  rw [hb k k0 (by omega), hb (k + 1) (by omega) (by omega)]
  exact ⟨by omega, by unfold zI; omega, by unfold zI; omega, by omega, by unfold zI; omega, q⟩
theorem m_valueAt {G : zG} {h sl : Nat} (hsl : 2 ≤ sl) {n c : Int} {B : Int → Int} {M : zM} {Q : Int → zM → Prop} (hB : zBt n B) (hb : zAr M 126 n B) (c0 : 0 ≤ c) (cn : 4 + 4 * c < n) (q : Q (zonv B c) M) : zCt G (h + 1) sl 0 0 y_Md_valueAt [(2, 125), (0, c)] M Q := by
  have h1 := hB.1
  have b2 := hB.2 (2 + 4 * c) (by omega) (by omega)
  have b3 := hB.2 (3 + 4 * c) (by omega) (by omega)
  have b4 := hB.2 (3 + 4 * c + 1) (by omega) (by omega)
  refine E_Md_valueAt hsl ?_
  rw [hb (2 + 4 * c) (by omega) (by omega)]
  refine ⟨by unfold zI; omega, by unfold zI; omega, by omega, by unfold zI; omega, by unfold zI; omega, m_twoAt hsl hB hb (by omega) (by omega) ⟨by unfold zI; omega, by unfold zI; omega, ?_⟩⟩
  rw [show 65536 * B (2 + 4 * c) + (256 * B (3 + 4 * c) + B (3 + 4 * c + 1)) - 1000000 = zonv B c from by unfold zonv; rw [show 3 + 4 * c + 1 = 4 + 4 * c from by omega]; omega]
  exact q
theorem m_isImageL {G : zG} {h sl : Nat} (hsl : 2 ≤ sl) {T : zTb} {n : Int} {B : Int → Int} {M : zM} {Q : Int → zM → Prop} (hT : zTok T) (hm : zTm T M) (hB : zBt n B) (hb : zAr M 126 n B) (hn : n = 3 + 4 * T.1 8 0) :
    ∀ (f k : Nat) {u : Nat × Nat × Nat × Nat}, f + k = (T.1 8 0).toNat → Q (if zaq (zon1 T B) f k = true then 1 else 0) M → zX G (y_Md_isImage, h + 3 + 1, sl) u 48 [(0, (2, 125)), (2, (0, (k : Int)))] [] M Q
  | 0, k, u, e, q => by
    have h0 := hT.1
    refine B_Md_isImage_48 hsl (E_Md_columnMany hsl ?_)
    rw [hm.two]
    exact ⟨fun _ => q, fun g => absurd (by omega) g⟩
  | f + 1, k, u, e, q => by
    have h0 := hT.1
    have hn8 := hT.2.1
    have h1 := hB.1
    have b5 := hB.2 (5 + 4 * (k : Int)) (by omega) (by omega)
    have b2 := hB.2 (2 + 4 * (k : Int)) (by omega) (by omega)
    have b3 := hB.2 (3 + 4 * (k : Int)) (by omega) (by omega)
    have b4 := hB.2 (4 + 4 * (k : Int)) (by omega) (by omega)
    have hv : -1000000 ≤ zonv B k := by unfold zonv; omega
    have t0 := (hm.2.2.2.1 (k : Int) (by omega) (by omega)).1
    have no : ¬ zon1 T B k = true → Q 0 M := fun g => by rw [zaq_no g] at q; exact q
    have next : ∀ u', zon1 T B k = true → zI ((k : Int) + 1) ∧ zX G (y_Md_isImage, h + 3 + 1, sl) u' 48 [(0, (2, 125)), (2, (0, (k : Int) + 1))] [] M Q := fun u' g => ⟨by unfold zI; omega, by
      rw [zaq_yes g] at q
      have := m_isImageL (G := G) (h := h) (Q := Q) hsl hT hm hB hb hn f (k + 1) (u := u') (by omega) q
      rw [zcs] at this
      exact this⟩
    have at79 : ∀ (s1 : Int) u', s1 = (if T.1 k 0 = 0 then 1 else 0) → zX G (y_Md_isImage, h + 3 + 1, sl) u' 79 [(0, (2, 125)), (2, (0, (k : Int)))] [(0, s1), (0, B (5 + 4 * (k : Int)))] M Q := fun s1 u' es1 => by
      refine B_Md_isImage_79 hsl ⟨fun g2 => c_sortOf hsl (by omega) (by omega) ?_, fun g2 => no (zon1_f.mpr (Or.inl (by rw [← es1]; exact g2)))⟩
      rw [t0]
      refine ⟨fun g3 => m_valueAt (h := h + 2) hsl hB hb (by omega) (by omega) (m_canTell hsl hT hm (fun x1 x2 x3 x4 => ⟨fun _ => next u' (zon1_t.mpr ⟨by rw [← es1]; exact g2, by rw [if_neg g3]; exact ⟨x3, x4⟩⟩), fun y => absurd (by decide) y⟩) (fun x => ⟨fun y => absurd rfl y, fun _ => no (zon1_f.mpr (Or.inr (by rw [if_neg g3]; exact fun z => x ⟨⟨by omega, by omega⟩, g3, z.1, z.2⟩)))⟩)), fun g3 => m_valueAt (h := h + 2) hsl hB hb (by omega) (by omega) (c_isIn hsl (fun x1 x2 => ⟨fun _ => next u' (zon1_t.mpr ⟨by rw [← es1]; exact g2, by rw [if_pos (by omega)]; exact x2⟩), fun y => absurd (by decide) y⟩) (fun x => ⟨fun y => absurd rfl y, fun _ => no (zon1_f.mpr (Or.inr (by rw [if_pos (by omega)]; omega)))⟩))⟩
    refine B_Md_isImage_48 hsl (E_Md_columnMany hsl ?_)
    rw [hm.two]
    refine ⟨fun g => absurd g (by omega), fun _ => ⟨by unfold zI; omega, by unfold zI; omega, by omega, c_sortOf hsl (by omega) (by omega) ?_⟩⟩
    rw [t0, hb _ (by omega) (by omega)]
    exact ⟨fun g => at79 0 _ (by rw [if_neg g]), fun g => at79 1 _ (by rw [if_pos (by omega)])⟩
theorem m_isImage {G : zG} {h sl : Nat} (hsl : 2 ≤ sl) {T : zTb} {n : Int} {B : Int → Int} {M : zM} {Q : Int → zM → Prop} (hT : zTok T) (hm : zTm T M) (hB : zBt n B) (hb : zAr M 126 n B) (q1 : zonk T n B → Q 1 M) (q0 : ¬ zonk T n B → Q 0 M) : zCt G (h + 4) sl 0 0 y_Md_isImage [(2, 125), (0, n)] M Q := by
  have h0 := hT.1
  have hn8 := hT.2.1
  have h1 := hB.1
  have e126 : (zK 126).2 = 1600 := by decide
  refine E_Md_isImage hsl (E_Md_columnMany hsl ?_)
  rw [hm.two]
  refine ⟨by unfold zI; omega, by unfold zI; omega, fun g => q0 (fun x => g x.1), fun g => ⟨by unfold zI; omega, by omega, E_Md_checked hsl ?_⟩⟩
  have en : n - 1 = 2 + 4 * T.1 8 0 := by omega
  rw [en]
  have b0 := hB.2 0 (by decide) (by omega)
  have b1 := hB.2 1 (by decide) (by omega)
  have : zX G (y_Md_checked, h + 3, sl) (0, 0, 0, 0) 6 [(0, (2, 126)), (1, (0, (((2 + 4 * T.1 8 0).toNat : Nat) : Int))), (2, (0, 181)), (3, (0, 0))] [] M (fun r7 M8 => (¬ (M 126 (2 + 4 * T.1 8 0)) = r7 → Q 0 M8) ∧ (¬ (¬ (M 126 (2 + 4 * T.1 8 0)) = r7) → zCt G (h + 3) sl 0 0 y_Md_twoAt [(2, 125), (0, 0)] M8 (fun r9 M10 => (r9 ≤ 999 → zX G (y_Md_isImage, h + 3 + 1, sl) (0, 0, 0, 0) 48 [(0, (2, 125)), (2, (0, 0))] [] M10 Q) ∧ (¬ r9 ≤ 999 → Q 0 M10)))) := by
    refine m_checkedL (o := 126) (n := (2 + 4 * T.1 8 0).toNat) (f := B) hsl (by decide) (by rw [e126]; omega) (by decide) (fun i a b => ⟨hb i a (by omega), hB.2 i a (by omega)⟩) ?_ (2 + 4 * T.1 8 0).toNat 0 (by omega)
    rw [hb _ (by omega) (by omega)]
    refine ⟨fun g2 => q0 (fun x => g2 x.2.1), fun g2 => m_twoAt hsl hB hb (by decide) (by omega) ⟨fun g3 => m_isImageL hsl hT hm hB hb (by omega) (T.1 8 0).toNat 0 (by omega) ?_, fun g3 => q0 (fun x => g3 x.2.2.1)⟩⟩
    by_cases z : zaq (zon1 T B) (T.1 8 0).toNat 0 = true
    · rw [if_pos z]
      exact q1 ⟨by omega, by omega, g3, z⟩
    · rw [if_neg z]
      exact q0 (fun x => z x.2.2.2)
  rw [show (((2 + 4 * T.1 8 0).toNat : Nat) : Int) = 2 + 4 * T.1 8 0 from by omega] at this
  exact this
def zPmo : Int → Int → Prop := fun a k => a = 164 ∨ a = 125 ∧ (k = 1 ∨ k = 66) ∨ a = 127
theorem m_onL {G : zG} {h sl : Nat} (hsl : 2 ≤ sl) {T : zTb} {L : Int → Int} {n : Int} {B : Int → Int} {M0 : zM} {Q : Int → zM → Prop} (hP : zPu T L) (hC0 : zMk T L M0) (hB : zBt n B) (hb0 : zAr M0 126 n B) (hn : n = 3 + 4 * T.1 8 0)
    (q : ∀ M', zSm (fun a k => a = 164 ∨ a = 125 ∧ k = 66) M0 M' → zLm (T.1 8 0) (zonl B) M' → M' 164 17 = 0 → M' 125 66 = 0 → Q 1 M') :
    ∀ (f k : Nat) {M : zM} {u : Nat × Nat × Nat × Nat}, f + k = (T.1 8 0).toNat → zSm (fun a _ => a = 164) M0 M → M 164 0 = zonl B 0 → (∀ c, 0 ≤ c → c < (k : Int) → M 164 (1 + c) = zonl B (1 + c) ∧ M 164 (9 + c) = zonl B (9 + c)) → zX G (y_Md_on, h + 1 + 1, sl) u 37 [(0, (2, 125)), (2, (0, (k : Int)))] [] M Q
  | 0, k, M, u, e, hM, hl0, hl => by
    have h0 := hP.1.1
    have hn8 := hP.1.2.1
    refine B_Md_on_37 hsl (E_Md_columnMany hsl ?_)
    rw [hM 158 2 (by omega), hC0.1.two]
    refine ⟨fun _ => q _ (((hM.mono (fun a j p => Or.inl p)).wr (Or.inl rfl)).wr (Or.inr ⟨rfl, rfl⟩)) ⟨by rw [zwr_o _ (by decide), zwr_k _ (by decide)]; exact hl0, fun c c0 cn => ?_⟩ (by rw [zwr_o _ (by decide), zwr_s]) (zwr_s _ _ _ _), fun g => absurd (by omega) g⟩
    rw [zwr_o _ (by decide), zwr_k _ (by omega), zwr_o _ (by decide), zwr_k _ (by omega)]
    exact hl c c0 (by omega)
  | f + 1, k, M, u, e, hM, hl0, hl => by
    have h0 := hP.1.1
    have hn8 := hP.1.2.1
    have h1 := hB.1
    have hb : zAr M 126 n B := hb0.fr (fun i => hM _ _ (by omega))
    refine B_Md_on_37 hsl (E_Md_columnMany hsl ?_)
    rw [hM 158 2 (by omega), hC0.1.two]
    refine ⟨fun g => absurd g (by omega), fun _ => ⟨by unfold zI; omega, m_valueAt hsl hB hb (by omega) (by omega) ⟨by omega, by unfold zI; omega, by unfold zI; omega, by unfold zI; omega, by omega, by omega, by unfold zI; omega, ?_⟩⟩⟩
    have e6 : ∀ v, (zwr M 164 (1 + (k : Int)) v) 126 (5 + 4 * (k : Int)) = B (5 + 4 * (k : Int)) := fun v => by rw [zwr_o _ (by decide)]; exact hb _ (by omega) (by omega)
    rw [e6]
    have := m_onL (G := G) (h := h) (Q := Q) hsl hP hC0 hB hb0 hn q f (k + 1) (M := zwr (zwr M 164 (1 + (k : Int)) (zonv B k)) 164 (9 + (k : Int)) (B (5 + 4 * (k : Int)))) (u := u) (by omega) ((hM.wr rfl).wr rfl) (by rw [zwr_k _ (by omega), zwr_k _ (by omega)]; exact hl0) (fun c c0 cn => by
      by_cases cc : c = (k : Int)
      · subst cc
        rw [zwr_k _ (by omega), zwr_s, zwr_s, zonl_v B (by omega) (by omega), zonl_w B (by omega)]
        exact ⟨rfl, rfl⟩
      · rw [zwr_k _ (by omega), zwr_k _ (by omega), zwr_k _ (by omega), zwr_k _ (by omega)]
        exact hl c c0 (by omega))
    rw [zcs] at this
    exact this
theorem m_on {G : zG} {h sl : Nat} (hsl : 2 ≤ sl) {T : zTb} {L : Int → Int} {n ac j : Int} {K : zKp3} {R : Int → Int → Int} {B Rf : Int → Int} {M : zM} {Q : Int → zM → Prop} (hP : zPu T L) (hC : zMk T L M) (hH : zHm T K R ac j M) (hB : zBt n B) (hb : zTq n B M) (hR : zAr M 127 6 Rf) (hbb : 0 ≤ Rf 5 ∧ Rf 5 ≤ 100000)
    (q1 : zonk T n B → ∀ M', zSm zPmo M M' → zTq 0 B M' → zMk T (zonl B) M' → zHm T (0, K.2.1, K.2.2) R 0 j M' → zAr M' 127 6 Rf → Q 1 M')
    (q0 : ¬ zonk T n B → ∀ M', zSm (fun a k => a = 125 ∧ k = 1 ∨ a = 127) M M' → zTq 0 B M' → zAr M' 127 6 (zup Rf 5 (Rf 5 + 1)) → Q 0 M') : zCt G (h + 5) sl 0 0 y_Md_on [(2, 125)] M Q := by
  have h0 := hP.1.1
  have f0 : ∀ a k, ¬ (a = 125 ∧ k = 1) → (zwr M 125 1 0) a k = M a k := fun a k x => by rw [zwr_i, if_neg x]
  have hC1 : zMk T L (zwr M 125 1 0) := hC.fr hP.1 (fun a k p => f0 a k (by unfold zdMk at p; omega))
  have hb1 : zAr (zwr M 125 1 0) 126 n B := hb.2.fr (fun i => f0 _ _ (by omega))
  refine E_Md_on hsl ?_
  rw [hb.1]
  refine m_isImage hsl hP.1 hC1.1 hB hb1 (fun hk => ⟨fun _ => m_twoAt hsl hB hb1 (by decide) (by have := hk.1; omega) ?_, fun y => absurd (by decide) y⟩) (fun hk => ⟨fun y => absurd rfl y, fun _ => m_isRefused hsl (by decide) (by decide) (hR.fr (fun i => f0 _ _ (by omega))) hbb (fun M2 hM2 hR2 => ?_)⟩)
  · have s1 : zSm (fun a _ => a = 164) (zwr M 125 1 0) (zwr (zwr M 125 1 0) 164 0 (256 * B 0 + B (0 + 1))) := (zSm.refl (fun a _ => a = 164) _).wr (by rfl)
    refine m_onL (M0 := zwr M 125 1 0) (h := h + 3) hsl hP hC1 hB hb1 hk.1 (fun M2 hM2 hl h17 h66 => ?_) (T.1 8 0).toNat 0 (by omega) s1 (by rw [zwr_s, zonl_0]; rfl) (fun c c0 cn => absurd cn (by omega))
    have f2 : ∀ a k, a ≠ 164 → ¬ (a = 125 ∧ (k = 1 ∨ k = 66)) → M2 a k = M a k := fun a k x y => by rw [hM2 a k (by omega), f0 a k (by omega)]
    refine q1 hk M2 (fun a k n => by unfold zPmo at n; exact f2 a k (by omega) (by omega)) ⟨by rw [hM2 _ _ (by omega), zwr_s], fun i a b => absurd b (by omega)⟩ (hC.ln hP.1 (fun a k p x => f2 a k x (by unfold zdMk at p; omega)) hl) ⟨⟨by rw [h17]; rfl, fun k a b => absurd b (by unfold zkt4; simp; omega)⟩, by rw [f2 _ _ (by decide) (by omega)]; exact hH.2.1, h66, fun s hs => absurd hs.2 (by omega)⟩ (hR.fr (fun i => f2 _ _ (by decide) (by omega)))
  · exact q0 hk M2 (((zSm.refl _ M).wr (Or.inl ⟨rfl, rfl⟩)).trans (hM2.mono (fun a k p => Or.inr p))) ⟨by rw [hM2 _ _ (by unfold zPrf; omega), zwr_s], fun i a b => absurd b (by omega)⟩ hR2
