/-! Images: both sides. -/
theorem zshr_8 {x : Int} (hx : zI x) : zshr x 8 = x / 256 := by
  unfold zshr
  show ((Int32.ofInt x).toBitVec.sshiftRight' ((Int32.ofInt 8 &&& 31).toBitVec.smod 32)).toInt = _
  have e : ((Int32.ofInt 8 &&& 31).toBitVec.smod 32).toNat = 8 := by decide
  have e2 : (Int32.ofInt x).toBitVec.toInt = x := zi_to hx
  rw [BitVec.toInt_sshiftRight', e, e2, Int.shiftRight_eq_div_pow]
  rfl
theorem zshr_16 {x : Int} (hx : zI x) : zshr x 16 = x / 65536 := by
  unfold zshr
  show ((Int32.ofInt x).toBitVec.sshiftRight' ((Int32.ofInt 16 &&& 31).toBitVec.smod 32)).toInt = _
  have e : ((Int32.ofInt 16 &&& 31).toBitVec.smod 32).toNat = 16 := by decide
  have e2 : (Int32.ofInt x).toBitVec.toInt = x := zi_to hx
  rw [BitVec.toInt_sshiftRight', e, e2, Int.shiftRight_eq_div_pow]
  rfl
theorem zand_m {y : Int} (h0 : 0 ≤ y) (h1 : y < 2147483648) : zand y 255 = y % 256 := by
  have h := zand_N (m := y.toNat) (n := 255) (by omega) (by decide)
  rw [show ((y.toNat : Nat) : Int) = y from by omega] at h
  have e : ((255 : Nat) : Int) = 255 := rfl
  rw [e] at h
  rw [h, show (255 : Nat) = 2 ^ 8 - 1 from rfl, Nat.and_two_pow_sub_one_eq_mod]
  omega
/-- the seal of so many bytes -/
def zseal (f : Int → Int) : Nat → Int
  | 0 => 181
  | k + 1 => (3 * zseal f k + f k) % 251
theorem zseal_in (f : Int → Int) : ∀ k, 0 ≤ zseal f k ∧ zseal f k < 251
  | 0 => by unfold zseal; omega
  | k + 1 => by unfold zseal; omega
theorem zseal_eq {f g : Int → Int} : ∀ k : Nat, (∀ i : Int, 0 ≤ i → i < (k : Int) → f i = g i) → zseal f k = zseal g k
  | 0, _ => rfl
  | k + 1, h => by
    unfold zseal
    rw [zseal_eq k (fun i a b => h i a (by omega)), h k (by omega) (by omega)]
theorem c_sealL {G : zG} {h sl : Nat} (hsl : 1 ≤ sl) {o : Int} {n : Nat} {f : Int → Int} {M : zM} {Q : Int → zM → Prop} (hk : (zK o).1 = 100) (hn : (n : Int) ≤ (zK o).2) (hz : (zK o).2 ≤ 100000) (hf : ∀ i : Int, 0 ≤ i → i < (n : Int) → M o i = f i ∧ 0 ≤ f i ∧ f i ≤ 255) (q : Q (zseal f n) M) :
    ∀ (d k : Nat) {u : Nat × Nat × Nat × Nat}, d + k = n → zX G (y_Zt_sealOf, h, sl) u 6 [(0, (2, o)), (1, (0, (n : Int))), (2, (0, zseal f k)), (3, (0, (k : Int)))] [] M Q
  | 0, k, u, e => by
    have : k = n := by omega
    subst this
    exact B_Zt_sealOf_6 hsl ⟨fun _ => q, fun g => absurd (by omega) g⟩
  | d + 1, k, u, e => by
    have hb := zseal_in f k
    obtain ⟨e1, e2, e3⟩ := hf k (by omega) (by omega)
    refine B_Zt_sealOf_6 hsl ⟨fun g => absurd g (by omega), fun _ => ⟨hk, by omega, fun g => absurd g (by omega), fun _ => ?_⟩⟩
    rw [e1, Int.tmod_eq_emod_of_nonneg (by omega : 0 ≤ 3 * zseal f k + f k)]
    refine ⟨by unfold zI; omega, by omega, by unfold zI; omega, by unfold zI; omega, ?_⟩
    have := c_sealL (G := G) (h := h) (Q := Q) hsl hk hn hz hf q d (k + 1) (u := u) (by omega)
    rw [zcs] at this
    exact this
theorem m_checkedL {G : zG} {h sl : Nat} (hsl : 2 ≤ sl) {o : Int} {n : Nat} {f : Int → Int} {M : zM} {Q : Int → zM → Prop} (hk : (zK o).1 = 100) (hn : (n : Int) ≤ (zK o).2) (hz : (zK o).2 ≤ 100000) (hf : ∀ i : Int, 0 ≤ i → i < (n : Int) → M o i = f i ∧ 0 ≤ f i ∧ f i ≤ 255) (q : Q (zseal f n) M) :
    ∀ (d k : Nat) {u : Nat × Nat × Nat × Nat}, d + k = n → zX G (y_Md_checked, h, sl) u 6 [(0, (2, o)), (1, (0, (n : Int))), (2, (0, zseal f k)), (3, (0, (k : Int)))] [] M Q
  | 0, k, u, e => by
    have : k = n := by omega
    subst this
    exact B_Md_checked_6 hsl ⟨fun _ => q, fun g => absurd (by omega) g⟩
  | d + 1, k, u, e => by
    have hb := zseal_in f k
    obtain ⟨e1, e2, e3⟩ := hf k (by omega) (by omega)
    refine B_Md_checked_6 hsl ⟨fun g => absurd g (by omega), fun _ => ⟨by unfold zI; omega, hk, by omega, ?_⟩⟩
    rw [e1, Int.tmod_eq_emod_of_nonneg (by omega : 0 ≤ 3 * zseal f k + f k)]
    refine ⟨by unfold zI; omega, by unfold zI; omega, ?_⟩
    have := m_checkedL (G := G) (h := h) (Q := Q) hsl hk hn hz hf q d (k + 1) (u := u) (by omega)
    rw [zcs] at this
    exact this
/-- the bytes of an image ahead of its seal -/
def zim (L : Int → Int) (i : Int) : Int :=
  if i = 0 then L 0 / 256 else if i = 1 then L 0 % 256
  else if (i - 2) % 4 = 0 then (L (1 + (i - 2) / 4) + 1000000) / 65536
  else if (i - 2) % 4 = 1 then (L (1 + (i - 2) / 4) + 1000000) / 256 % 256
  else if (i - 2) % 4 = 2 then (L (1 + (i - 2) / 4) + 1000000) % 256
  else L (9 + (i - 2) / 4)
theorem zim_a {L : Int → Int} {c : Int} (c0 : 0 ≤ c) : zim L (2 + 4 * c) = (L (1 + c) + 1000000) / 65536 ∧ zim L (2 + 4 * c + 1) = (L (1 + c) + 1000000) / 256 % 256 ∧ zim L (2 + 4 * c + 2) = (L (1 + c) + 1000000) % 256 ∧ zim L (2 + 4 * c + 3) = L (9 + c) := by
  unfold zim
  refine ⟨?_, ?_, ?_, ?_⟩
  · rw [if_neg (by omega), if_neg (by omega), if_pos (by omega), show (2 + 4 * c - 2) / 4 = c from by omega]
  · rw [if_neg (by omega), if_neg (by omega), if_neg (by omega), if_pos (by omega), show (2 + 4 * c + 1 - 2) / 4 = c from by omega]
  · rw [if_neg (by omega), if_neg (by omega), if_neg (by omega), if_neg (by omega), if_pos (by omega), show (2 + 4 * c + 2 - 2) / 4 = c from by omega]
  · rw [if_neg (by omega), if_neg (by omega), if_neg (by omega), if_neg (by omega), if_neg (by omega), show (2 + 4 * c + 3 - 2) / 4 = c from by omega]
theorem zim_in {T : zTb} {L : Int → Int} (hP : zPu T L) {i : Int} (h0 : 0 ≤ i) (hi : i < 2 + 4 * T.1 8 0) : 0 ≤ zim L i ∧ zim L i ≤ 255 := by
  have h9 := hP.2.2
  have hl0 := hP.2.1.1
  by_cases c0 : i < 2
  · unfold zim
    by_cases c : i = 0
    · rw [if_pos c]; omega
    · rw [if_neg c, if_pos (by omega)]; omega
  · have hc0 : 0 ≤ (i - 2) / 4 := by omega
    have hcn : (i - 2) / 4 < T.1 8 0 := by omega
    have hv := (hP.2.1.2.2 _ hc0 hcn).in (hP.1.2.2.2.2.2.2.2 _ hc0 hcn)
    have hu := (hP.2.1.2.2 _ hc0 hcn).up
    obtain ⟨a, b, c, d⟩ := zim_a (L := L) hc0
    rcases (by omega : i = 2 + 4 * ((i - 2) / 4) ∨ i = 2 + 4 * ((i - 2) / 4) + 1 ∨ i = 2 + 4 * ((i - 2) / 4) + 2 ∨ i = 2 + 4 * ((i - 2) / 4) + 3) with e | e | e | e
    · rw [e, a]; omega
    · rw [e, b]; omega
    · rw [e, c]; omega
    · rw [e, d]; omega
def zimg (T : zTb) (L : Int → Int) (i : Int) : Int := if i = 2 + 4 * T.1 8 0 then zseal (zim L) (2 + 4 * T.1 8 0).toNat else zim L i
theorem c_imageL {G : zG} {h sl : Nat} (hsl : 1 ≤ sl) {T : zTb} {L : Int → Int} {t : Int} {M0 : zM} {Q : Int → zM → Prop} (hP : zPu T L) (hC0 : zCk T L t M0) (q : ∀ M', zSm (fun a k => a = 77 ∨ a = 1 ∧ k = 13) M0 M' → M' 1 13 = 3 + 4 * T.1 8 0 → zAr M' 77 (3 + 4 * T.1 8 0) (zimg T L) → Q (3 + 4 * T.1 8 0) M') :
    ∀ (d k : Nat) {M : zM} {u : Nat × Nat × Nat × Nat}, d + k = (T.1 8 0).toNat → zSm (fun a _ => a = 77) M0 M → zAr M 77 (2 + 4 * (k : Int)) (zim L) → zX G (y_Zt_image, h + 1, sl) u 38 [(0, (2, 1)), (1, (0, 2 + 4 * (k : Int))), (2, (0, (k : Int)))] [] M Q
  | 0, k, M, u, e, hM, hr => by
    have hn := hP.1.1
    have hn8 := hP.1.2.1
    have hC : zCk T L t M := hC0.fr hP.1 (fun a j p => hM a j (by have := hC0.1; unfold zdCk at p; omega))
    have ek : T.1 8 0 = (k : Int) := by omega
    have hs := zseal_in (zim L) (2 + 4 * k)
    refine B_Zt_image_38 hsl ⟨hC.k8, fun _ => E_Zt_sealOf hsl ?_, fun g => absurd (by rw [hC.n]; omega) g⟩
    have : zX G (y_Zt_sealOf, h, sl) (0, 0, 0, 0) 6 [(0, (2, 77)), (1, (0, ((2 + 4 * k : Nat) : Int))), (2, (0, 181)), (3, (0, 0))] [] M (fun r2 M3 => (0 ≤ 2 + 4 * (k : Int) ∧ 2 + 4 * (k : Int) < 35) ∧ ((zI (2 + 4 * (k : Int) + 1)) ∧ (Q ((zwr (zwr M3 77 (2 + 4 * (k : Int)) r2) 1 13 (2 + 4 * (k : Int) + 1)) 1 13) (zwr (zwr M3 77 (2 + 4 * (k : Int)) r2) 1 13 (2 + 4 * (k : Int) + 1))))) := by
      have e77 : (zK 77).2 = 35 := by decide
      refine c_sealL (o := 77) (n := 2 + 4 * k) (f := zim L) hsl (by decide) (by rw [e77]; omega) (by decide) (fun i a b => ⟨hr i a (by omega), zim_in hP a (by omega)⟩) ⟨by omega, by unfold zI; omega, ?_⟩ (2 + 4 * k) 0 (by omega)
      rw [zwr_s, show 2 + 4 * (k : Int) + 1 = 3 + 4 * T.1 8 0 from by omega]
      refine q _ (((hM.mono (fun a j p => Or.inl p)).wr (Or.inl rfl)).wr (Or.inr ⟨rfl, rfl⟩)) (zwr_s _ _ _ _) (fun i a b => ?_)
      rw [zwr_o _ (by decide)]
      unfold zimg
      by_cases c : i = 2 + 4 * (k : Int)
      · subst c
        rw [zwr_s, if_pos (by omega), show (2 + 4 * T.1 8 0).toNat = 2 + 4 * k from by omega]
      · rw [zwr_k _ c, if_neg (by omega)]
        exact hr i a (by omega)
    rw [show ((2 + 4 * k : Nat) : Int) = 2 + 4 * (k : Int) from by omega] at this
    exact this
  | d + 1, k, M, u, e, hM, hr => by
    have hn := hP.1.1
    have hn8 := hP.1.2.1
    have hC : zCk T L t M := hC0.fr hP.1 (fun a j p => hM a j (by have := hC0.1; unfold zdCk at p; omega))
    have hlc := hC.2.2.2.1.2.2 (k : Int) (by omega) (by omega)
    have hv := (hP.2.1.2.2 (k : Int) (by omega) (by omega)).in (hP.1.2.2.2.2.2.2.2 (k : Int) (by omega) (by omega))
    have hu := (hP.2.1.2.2 (k : Int) (by omega) (by omega)).up
    obtain ⟨z1, z2, z3, z4⟩ := zim_a (L := L) (c := (k : Int)) (by omega)
    refine B_Zt_image_38 hsl ⟨hC.k8, fun g => absurd g (by rw [hC.n]; omega), fun _ => ⟨by omega, ?_⟩⟩
    rw [show M 5 (k : Int) = L (1 + k) from hlc.1, zshr_16 (by unfold zI; omega), zshr_8 (by unfold zI; omega), zand_m (by omega) (by omega), zand_m (by omega) (by omega), zand_m (by omega) (by omega)]
    rw [show (L (1 + (k : Int)) + 1000000) / 65536 % 256 = (L (1 + (k : Int)) + 1000000) / 65536 from by omega, ← z1, ← z2, ← z3]
    refine ⟨by unfold zI; omega, by omega, by unfold zI; omega, by omega, by unfold zI; omega, by omega, by unfold zI; omega, ?_⟩
    have s1 : zSm (fun a _ => a = 77) M (zwr (zwr (zwr M 77 (2 + 4 * (k : Int)) (zim L (2 + 4 * (k : Int)))) 77 (2 + 4 * (k : Int) + 1) (zim L (2 + 4 * (k : Int) + 1))) 77 (2 + 4 * (k : Int) + 2) (zim L (2 + 4 * (k : Int) + 2))) := (((zSm.refl (fun a _ => a = 77) M).wr (by rfl)).wr (by rfl)).wr (by rfl)
    refine c_goesUp hsl (by decide) (by rw [s1 4 2 (by decide)]; exact hC.2.2.2.1.2.1) (by omega) (by omega) ?_
    rw [s1 4 2 (by decide), hlc.2]
    have next : ∀ v, v = L (9 + (k : Int)) → zX G (y_Zt_image, h + 1, sl) u 38 [(0, (2, 1)), (1, (0, 2 + 4 * (k : Int) + 4)), (2, (0, (k : Int) + 1))] [] (zwr (zwr (zwr (zwr M 77 (2 + 4 * (k : Int)) (zim L (2 + 4 * (k : Int)))) 77 (2 + 4 * (k : Int) + 1) (zim L (2 + 4 * (k : Int) + 1))) 77 (2 + 4 * (k : Int) + 2) (zim L (2 + 4 * (k : Int) + 2))) 77 (2 + 4 * (k : Int) + 3) v) Q := fun v ev => by
      have := c_imageL (G := G) (h := h) (Q := Q) hsl hP hC0 q d (k + 1) (M := zwr (zwr (zwr (zwr M 77 (2 + 4 * (k : Int)) (zim L (2 + 4 * (k : Int)))) 77 (2 + 4 * (k : Int) + 1) (zim L (2 + 4 * (k : Int) + 1))) 77 (2 + 4 * (k : Int) + 2) (zim L (2 + 4 * (k : Int) + 2))) 77 (2 + 4 * (k : Int) + 3) v) (u := u) (by omega) ((hM.trans s1).wr rfl) (fun i a b => by
        by_cases c3 : i = 2 + 4 * (k : Int) + 3
        · subst c3; rw [zwr_s, z4, ev]
        · rw [zwr_k _ c3]
          by_cases c2 : i = 2 + 4 * (k : Int) + 2
          · subst c2; rw [zwr_s]
          · rw [zwr_k _ c2]
            by_cases c1 : i = 2 + 4 * (k : Int) + 1
            · subst c1; rw [zwr_s]
            · rw [zwr_k _ c1]
              by_cases c0 : i = 2 + 4 * (k : Int)
              · subst c0; rw [zwr_s]
              · rw [zwr_k _ c0]
                exact hr i a (by omega))
      rw [zcs, show 2 + 4 * ((k : Int) + 1) = 2 + 4 * (k : Int) + 4 from by omega] at this
      exact this
    exact ⟨fun g => ⟨by omega, by unfold zI; omega, by unfold zI; omega, next 0 (by omega)⟩, fun g => ⟨by omega, by unfold zI; omega, by unfold zI; omega, next 1 (by omega)⟩⟩
theorem c_image {G : zG} {h sl : Nat} (hsl : 1 ≤ sl) {T : zTb} {L : Int → Int} {t : Int} {M : zM} {Q : Int → zM → Prop} (hP : zPu T L) (hC : zCk T L t M) (q : ∀ M', zSm (fun a k => a = 77 ∨ a = 1 ∧ k = 13) M M' → M' 1 13 = 3 + 4 * T.1 8 0 → zAr M' 77 (3 + 4 * T.1 8 0) (zimg T L) → Q (3 + 4 * T.1 8 0) M') : zCt G (h + 1) sl 0 0 y_Zt_image [(2, 1)] M Q := by
  have h9 := hP.2.2
  have h0 := hP.2.1.1
  have e4 : ∀ v, (zwr M 77 0 v) 4 1 = L 0 := fun v => by rw [zwr_o _ (by decide)]; exact hC.l0
  refine E_Zt_image hsl ?_
  rw [hC.l0, e4, Int.tdiv_eq_ediv_of_nonneg h0, Int.tmod_eq_emod_of_nonneg h0]
  refine ⟨by unfold zI; omega, c_imageL (M0 := M) (t := t) hsl hP hC q (T.1 8 0).toNat 0 (by omega) (((zSm.refl (fun a _ => a = 77) M).wr (by rfl)).wr (by rfl)) (fun i a b => ?_)⟩
  have b : i < 2 := by omega
  unfold zim
  by_cases c : i = 1
  · subst c; rw [zwr_s, if_neg (by decide), if_pos rfl]
  · rw [zwr_k _ c, if_pos (by omega), show i = 0 from by omega, zwr_s]
def zPmw : Int → Int → Prop := fun a k => a = 196 ∨ a = 125 ∧ k = 100
theorem m_writes {G : zG} {h sl : Nat} (hsl : 2 ≤ sl) {n v : Int} {f : Int → Int} {M : zM} {Q : Int → zM → Prop} (h1 : M 125 100 = n) (hn : 0 ≤ n ∧ n < 35) (hv : v = f n) (hr : zAr M 196 n f) (q : ∀ M', zSm zPmw M M' → M' 125 100 = n + 1 → zAr M' 196 (n + 1) f → Q 0 M') : zCt G h sl 0 0 y_Md_writes [(2, 125), (0, v)] M Q := by
  have e : ∀ w, (zwr M 196 n w) 125 100 = n := fun w => by rw [zwr_o _ (by decide)]; exact h1
  refine E_Md_writes hsl ?_
  rw [h1, e]
  refine ⟨hn, by unfold zI; omega, q _ (((zSm.refl _ M).wr (Or.inl rfl)).wr (Or.inr ⟨rfl, rfl⟩)) (zwr_s _ _ _ _) (fun i a b => ?_)⟩
  rw [zwr_o _ (by decide)]
  by_cases c : i = n
  · subst c; rw [zwr_s, hv]
  · rw [zwr_k _ c]; exact hr i a (by omega)
theorem m_writesTwo {G : zG} {h sl : Nat} (hsl : 2 ≤ sl) {n v : Int} {f : Int → Int} {M : zM} {Q : Int → zM → Prop} (h1 : M 125 100 = n) (hn : 0 ≤ n ∧ n < 34) (hv0 : 0 ≤ v ∧ v ≤ 1000000) (hv : v / 256 = f n) (hv2 : v % 256 = f (n + 1)) (hr : zAr M 196 n f) (q : ∀ M', zSm zPmw M M' → M' 125 100 = n + 2 → zAr M' 196 (n + 2) f → Q 0 M') : zCt G (h + 1) sl 0 0 y_Md_writesTwo [(2, 125), (0, v)] M Q := by
  refine E_Md_writesTwo hsl ?_
  rw [Int.tdiv_eq_ediv_of_nonneg hv0.1, Int.tmod_eq_emod_of_nonneg hv0.1]
  refine ⟨by unfold zI; omega, m_writes hsl h1 (by omega) hv hr (fun M1 hM1 e1 r1 => m_writes hsl e1 (by omega) hv2 r1 (fun M2 hM2 e2 r2 => ?_))⟩
  rw [show n + 1 + 1 = n + 2 from by omega] at e2 r2
  exact q M2 (hM1.trans hM2) e2 r2
theorem m_imageL {G : zG} {h sl : Nat} (hsl : 2 ≤ sl) {T : zTb} {L : Int → Int} {M0 : zM} {Q : Int → zM → Prop} (hP : zPu T L) (hC0 : zMk T L M0) (q : ∀ M', zSm zPmw M0 M' → M' 125 100 = 3 + 4 * T.1 8 0 → zAr M' 196 (3 + 4 * T.1 8 0) (zimg T L) → Q (3 + 4 * T.1 8 0) M') :
    ∀ (d k : Nat) {M : zM} {u : Nat × Nat × Nat × Nat}, d + k = (T.1 8 0).toNat → zSm zPmw M0 M → M 125 100 = 2 + 4 * (k : Int) → zAr M 196 (2 + 4 * (k : Int)) (zim L) → zX G (y_Md_image, h + 1 + 1, sl) u 17 [(0, (2, 125)), (1, (0, (k : Int)))] [] M Q
  | 0, k, M, u, e, hM, h1, hr => by
    have hn := hP.1.1
    have hn8 := hP.1.2.1
    have hC : zMk T L M := hC0.fr hP.1 (fun a j p => hM a j (by unfold zdMk at p; unfold zPmw; omega))
    have hs := zseal_in (zim L) (2 + 4 * k)
    refine B_Md_image_17 hsl (E_Md_columnMany hsl ?_)
    rw [hC.1.two]
    refine ⟨fun _ => E_Md_checked hsl ?_, fun g => absurd (by omega) g⟩
    rw [h1]
    have : zX G (y_Md_checked, h + 1, sl) (0, 0, 0, 0) 6 [(0, (2, 196)), (1, (0, ((2 + 4 * k : Nat) : Int))), (2, (0, 181)), (3, (0, 0))] [] M (fun r3 M4 => zCt G (h + 1) sl 0 0 y_Md_writes [(2, 125), (0, r3)] M4 (fun r5 M6 => Q (M6 125 100) M6)) := by
      have e196 : (zK 196).2 = 35 := by decide
      refine m_checkedL (o := 196) (n := 2 + 4 * k) (f := zim L) hsl (by decide) (by rw [e196]; omega) (by decide) (fun i a b => ⟨hr i a (by omega), zim_in hP a (by omega)⟩) ?_ (2 + 4 * k) 0 (by omega)
      refine m_writes (f := zimg T L) hsl h1 (by omega) ?_ (fun i a b => ?_) (fun M1 hM1 e1 r1 => ?_)
      · unfold zimg
        rw [if_pos (by omega), show (2 + 4 * T.1 8 0).toNat = 2 + 4 * k from by omega]
      · unfold zimg
        rw [if_neg (by omega)]
        exact hr i a b
      · rw [show 2 + 4 * (k : Int) + 1 = 3 + 4 * T.1 8 0 from by omega] at e1 r1
        rw [e1]
        exact q M1 (hM.trans hM1) e1 r1
    rw [show ((2 + 4 * k : Nat) : Int) = 2 + 4 * (k : Int) from by omega] at this
    exact this
  | d + 1, k, M, u, e, hM, h1, hr => by
    have hn := hP.1.1
    have hn8 := hP.1.2.1
    have hC : zMk T L M := hC0.fr hP.1 (fun a j p => hM a j (by unfold zdMk at p; unfold zPmw; omega))
    have hlc := hC.2.1.2 (k : Int) (by omega) (by omega)
    have hv := (hP.2.1.2.2 (k : Int) (by omega) (by omega)).in (hP.1.2.2.2.2.2.2.2 (k : Int) (by omega) (by omega))
    obtain ⟨z1, z2, z3, z4⟩ := zim_a (L := L) (c := (k : Int)) (by omega)
    refine B_Md_image_17 hsl (E_Md_columnMany hsl ?_)
    rw [hC.1.two]
    refine ⟨fun g => absurd g (by omega), fun _ => c_valueOf hsl (by omega) (by omega) ?_⟩
    rw [hlc.1, Int.tdiv_eq_ediv_of_nonneg (by omega : 0 ≤ L (1 + (k : Int)) + 1000000), Int.tmod_eq_emod_of_nonneg (by omega : 0 ≤ L (1 + (k : Int)) + 1000000)]
    refine ⟨by unfold zI; omega, by unfold zI; omega, m_writes hsl h1 (by omega) z1.symm hr (fun M1 hM1 e1 r1 => m_writesTwo hsl e1 (by omega) (by omega) (by rw [z2]; omega) (by rw [show 2 + 4 * (k : Int) + 1 + 1 = 2 + 4 * (k : Int) + 2 from by omega, z3]; omega) r1 (fun M2 hM2 e2 r2 => ⟨by unfold zI; omega, by omega, ?_⟩))⟩
    have hlc2 : M2 164 (9 + (k : Int)) = L (9 + k) := by rw [hM2 _ _ (by unfold zPmw; omega), hM1 _ _ (by unfold zPmw; omega)]; exact hlc.2
    rw [hlc2]
    rw [show 2 + 4 * (k : Int) + 1 + 2 = 2 + 4 * (k : Int) + 3 from by omega] at e2 r2
    refine m_writes hsl e2 (by omega) z4.symm r2 (fun M3 hM3 e3 r3 => ⟨by unfold zI; omega, ?_⟩)
    rw [show 2 + 4 * (k : Int) + 3 + 1 = 2 + 4 * ((k : Int) + 1) from by omega] at e3 r3
    have := m_imageL (G := G) (h := h) (Q := Q) hsl hP hC0 q d (k + 1) (M := M3) (u := u) (by omega) (((hM.trans hM1).trans hM2).trans hM3) (by rw [zcs]; exact e3) (by rw [zcs]; exact r3)
    rw [zcs] at this
    exact this
theorem m_image {G : zG} {h sl : Nat} (hsl : 2 ≤ sl) {T : zTb} {L : Int → Int} {M : zM} {Q : Int → zM → Prop} (hP : zPu T L) (hC : zMk T L M) (q : ∀ M', zSm zPmw M M' → M' 125 100 = 3 + 4 * T.1 8 0 → zAr M' 196 (3 + 4 * T.1 8 0) (zimg T L) → Q (3 + 4 * T.1 8 0) M') : zCt G (h + 2) sl 0 0 y_Md_image [(2, 125)] M Q := by
  have h9 := hP.2.2
  have h0 := hP.2.1.1
  have e4 : (zwr M 125 100 0) 164 0 = L 0 := by rw [zwr_o _ (by decide)]; exact hC.2.1.1
  refine E_Md_image hsl ?_
  rw [e4]
  refine m_writesTwo (f := zim L) hsl (zwr_s _ _ _ _) (by decide) (by omega) (by unfold zim; rw [if_pos rfl]) (by unfold zim; rw [if_neg (by decide), if_pos (by decide)]) (fun i a b => absurd b (by omega)) (fun M1 hM1 e1 r1 => ?_)
  exact m_imageL (M0 := M) hsl hP hC q (T.1 8 0).toNat 0 (by omega) (((zSm.refl _ M).wr (Or.inr ⟨rfl, rfl⟩)).trans hM1) e1 r1
