/-! Odds: both sides. -/
def zslp (T : zTb) (c v b : Int) : Int := if T.1 c 0 = 3 then v else T.1 c 1 + (v - T.1 c 1 + b) % (T.1 c 2 - T.1 c 1 + 1)
theorem zup_up (L : Int → Int) (k v w : Int) : zup (zup L k w) k v = zup L k v := by
  funext j
  unfold zup
  split <;> rfl
theorem zup_self (L : Int → Int) (k : Int) : zup L k (L k) = L := by
  funext j
  unfold zup
  split
  · rename_i h; rw [h]
  · rfl
theorem zslp_in {T : zTb} {c v b : Int} (ht : zTok1 T c) (h3 : T.1 c 0 ≠ 3) : T.1 c 1 ≤ zslp T c v b ∧ zslp T c v b ≤ T.1 c 2 := by
  unfold zslp
  rw [if_neg h3]
  have hp : 0 < T.1 c 2 - T.1 c 1 + 1 := by unfold zTok1 at ht; omega
  have h1 := Int.emod_nonneg (v - T.1 c 1 + b) (by omega : T.1 c 2 - T.1 c 1 + 1 ≠ 0)
  have h2 := Int.emod_lt_of_pos (v - T.1 c 1 + b) hp
  omega
theorem c_slipped {G : zG} {h sl : Nat} (hsl : 1 ≤ sl) {T : zTb} {t c v b : Int} {M : zM} {Q : Int → zM → Prop} (ht : zK t = (8, 0)) (hok : zTok1 T c) (ho : zTc1 T M t c) (c0 : 0 ≤ c) (c8 : c < 8) (hv : -1000000 ≤ v ∧ v ≤ 1000000) (hb : 0 ≤ b ∧ b ≤ 100) (q : Q (zslp T c v b) M) : zCt G (h + 1) sl 0 0 y_Column_slipped [(2, t + 7 + 2 * c), (0, v), (0, b)] M Q := by
  have hkc := (zs_cols ht c0 c8).2
  obtain ⟨⟨a1, a2, a3, _⟩, _⟩ := ho
  unfold zslp at q
  have hbd : 0 ≤ T.1 c 1 ∧ T.1 c 1 ≤ 1000 ∧ 0 ≤ T.1 c 2 ∧ T.1 c 2 ≤ 1000 ∧ T.1 c 1 ≤ T.1 c 2 := by unfold zTok1 at hok; omega
  refine E_Column_slipped hsl ⟨hkc, ?_⟩
  rw [a2, a3]
  refine ⟨by unfold zI; omega, by unfold zI; omega, E_Column_moves hsl ⟨hkc, ?_⟩⟩
  rw [a1]
  refine ⟨fun g => ⟨fun _ => ?_, fun x => absurd rfl x⟩, fun g => ⟨fun x => absurd x (by decide), fun _ => ⟨fun g2 => absurd g2 (by omega), fun _ => ?_⟩⟩⟩
  · rw [if_pos g] at q; exact q
  · rw [a2]
    rw [if_neg g] at q
    have h1 := Int.emod_nonneg (v - T.1 c 1 + b) (by omega : T.1 c 2 - T.1 c 1 + 1 ≠ 0)
    have h2 := Int.emod_lt_of_pos (v - T.1 c 1 + b) (by omega : 0 < T.1 c 2 - T.1 c 1 + 1)
    exact ⟨by unfold zI; omega, by unfold zI; omega, c_floorMod hsl (by unfold zI; omega) (by unfold zI; omega) (by omega) ⟨by unfold zI; omega, q⟩⟩
theorem m_isSlipped {G : zG} {h sl : Nat} (hsl : 2 ≤ sl) {T : zTb} {X : Int → Int} {c b : Int} {M : zM} {Q : Int → zM → Prop} (hT : zTok T) (hm : zTm T M) (hl : zLm (T.1 8 0) X M) (c0 : 0 ≤ c) (cn : c < T.1 8 0) (hv : -1000000 ≤ X (1 + c) ∧ X (1 + c) ≤ 1000000) (hb : 0 ≤ b ∧ b ≤ 100)
    (q : ∀ M', zSm zPG M M' → zLm (T.1 8 0) (zup X (1 + c) (zslp T c (X (1 + c)) b)) M' → Q (if T.1 c 0 = 3 then 0 else 1) M') : zCt G (h + 3) sl 0 0 y_Md_isSlipped [(2, 125), (0, c), (0, b)] M Q := by
  have h8 := hT.2.1
  have hok := hT.2.2.2.2.2.2.2 c c0 cn
  have hbd : 0 ≤ T.1 c 1 ∧ T.1 c 1 ≤ 1000 ∧ 0 ≤ T.1 c 2 ∧ T.1 c 2 ≤ 1000 ∧ T.1 c 1 ≤ T.1 c 2 := by unfold zTok1 at hok; omega
  refine E_Md_isSlipped hsl (c_sortOf hsl c0 (by omega) ?_)
  rw [(hm.2.2.2.1 c c0 cn).1]
  refine ⟨fun g => c_leastOf hsl hT hm c0 cn ⟨by unfold zI; omega, c_valueOf hsl c0 (by omega) ?_⟩, fun g => ?_⟩
  · rw [(hl.2 c c0 cn).1]
    have h1 := Int.emod_nonneg (X (1 + c) - T.1 c 1 + b) (by omega : T.1 c 2 - T.1 c 1 + 1 ≠ 0)
    have h2 := Int.emod_lt_of_pos (X (1 + c) - T.1 c 1 + b) (by omega : 0 < T.1 c 2 - T.1 c 1 + 1)
    refine ⟨by unfold zI; omega, by unfold zI; omega, c_mostOf hsl hT hm c0 cn ⟨by unfold zI; omega, by unfold zI; omega, c_around hsl (by omega) (by omega) ⟨by unfold zI; omega, by omega, ?_⟩⟩⟩
    have := q (zwr M 164 (1 + c) (T.1 c 1 + (X (1 + c) - T.1 c 1 + b) % (T.1 c 2 - T.1 c 1 + 1))) ((zSm.refl _ M).wr (by unfold zPG; omega)) (by unfold zslp; rw [if_neg g]; exact hl.val h8 c0)
    rw [if_neg g] at this
    exact this
  · have g3 : T.1 c 0 = 3 := by omega
    have := q M (zSm.refl _ _) (by unfold zslp; rw [if_pos g3, zup_self]; exact hl)
    rw [if_pos g3] at this
    exact this
/-- the rows by which a column is true in the next line by the seed -/
def zodk (T : zTb) (L : Int → Int) (c : Int) : Nat → Int
  | 0 => if zln T L 1 (1 + c) = ztr T ((L 0).toNat + 1) (1 + c) then 900 * T.1 8 0 - 9 * T.1 8 1 else 0
  | k + 1 => zodk T L c k + (if zslp T c (zln T L 1 (1 + c)) ((k : Int) + 1) = ztr T ((L 0).toNat + 1) (1 + c) then T.1 8 1 else 0)
theorem zodk_in {T : zTb} {L : Int → Int} {c : Int} (hT : zTok T) : ∀ k : Nat, -1000 ≤ zodk T L c k ∧ zodk T L c k ≤ 7200 + 100 * k
  | 0 => by
    have := hT.1; have := hT.2.1; have := hT.2.2.1; have := hT.2.2.2.1
    unfold zodk
    split <;> omega
  | k + 1 => by
    have ih := zodk_in (L := L) (c := c) hT k
    have := hT.2.2.1; have := hT.2.2.2.1
    unfold zodk
    split <;> omega
def zods (T : zTb) (L : Int → Int) (c : Int) : Int := if T.1 8 0 = 0 ∨ 999 ≤ L 0 ∨ c < -1 ∨ T.1 8 0 ≤ c then -1 else if c = -1 then 900 * T.1 8 0 else zodk T L c 9
theorem c_oddsL {G : zG} {h sl : Nat} (hsl : 1 ≤ sl) {T : zTb} {L : Int → Int} {t c : Int} {M : zM} {Q : Int → zM → Prop} (hP : zPu T L) (hC : zCk T L t M) (c0 : 0 ≤ c) (cn : c < T.1 8 0) (h9 : L 0 ≤ 998) (q : Q (zodk T L c 9) M) :
    ∀ (d k : Nat) {u : Nat × Nat × Nat × Nat}, d + k = 9 → zX G (y_Zt_odds, h + 1 + 1, sl) u 146 [(0, (2, 1)), (1, (0, c)), (3, (0, zln T L 1 (1 + c))), (4, (0, ztr T ((L 0).toNat + 1) (1 + c))), (6, (0, zodk T L c k)), (7, (0, (k : Int)))] [] M Q
  | 0, k, u, e => by
    have : k = 9 := by omega
    subst this
    exact B_Zt_odds_146 hsl ⟨fun _ => q, fun g => absurd (by decide) g⟩
  | d + 1, k, u, e => by
    have h8 := hP.1.2.1
    have hok := hP.1.2.2.2.2.2.2.2 c c0 cn
    have hv := zln_v (k := 1) hP (by decide) c0 cn
    have hb := zodk_in (L := L) (c := c) hP.1 k
    have hs1 := hP.1.2.2.1
    have hs2 := hP.1.2.2.2.1
    have ih := c_oddsL (G := G) (h := h) (Q := Q) hsl hP hC c0 cn h9 q d (k + 1) (u := u) (by omega)
    rw [zcs] at ih
    refine B_Zt_odds_146 hsl ⟨fun g => absurd g (by omega), fun _ => ⟨hC.k8, ⟨c0, by omega⟩, by unfold zI; omega, ?_⟩⟩
    rw [hC.2.1]
    refine c_slipped hsl hC.kt hok (hC.c1 c0 cn) c0 (by omega) hv (by omega) ⟨fun g => ?_, fun g => ⟨hC.k8, ?_⟩⟩
    · rw [show zodk T L c (k + 1) = zodk T L c k from by show zodk T L c k + _ = _; rw [if_neg g]; omega] at ih
      exact ih
    · rw [hC.2.1, hC.2.2.1.1.2.2.1]
      refine ⟨by unfold zI; omega, ?_⟩
      rw [show zodk T L c (k + 1) = zodk T L c k + T.1 8 1 from by show zodk T L c k + _ = _; rw [if_pos (by omega)]] at ih
      exact ih
theorem c_odds {G : zG} {h sl : Nat} (hsl : 1 ≤ sl) {T : zTb} {L : Int → Int} {t c : Int} {M : zM} {Q : Int → zM → Prop} (hP : zPu T L) (hC : zCk T L t M) (q : ∀ M', zSm (zPq t) M M' → zCk T L t M' → Q (zods T L c) M') : zCt G (h + 6) sl 0 0 y_Zt_odds [(2, 1), (0, c)] M Q := by
  have q0 := q M (zSm.refl _ _) hC
  have hn := hP.1.1
  have h8 := hP.1.2.1
  have hl0 := hP.2.1.1
  unfold zods at q q0
  refine E_Zt_odds hsl ⟨hC.k8, ?_⟩
  rw [hC.n, hC.l0]
  refine ⟨fun g => ?_, fun g1 => ⟨fun g => ?_, fun g2 => ⟨fun g => ?_, fun g3 => ⟨fun g4 => ⟨by unfold zI; omega, by unfold zI; omega, fun g5 => ?_, fun g5 => ?_⟩, fun g => ?_⟩⟩⟩⟩
  · rw [if_pos (by omega)] at q0; exact q0
  · rw [if_pos (by omega)] at q0; exact q0
  · rw [if_pos (by omega)] at q0; exact q0
  · have r1 : ∀ Q' : Int → zM → Prop, (∀ M' m, zSm (zPR 13 t) M M' → zCk T L t M' → 1 < m → zCo T L m M' 13 t → Q' 0 M') → zCt G (h + 5) sl 0 0 y_Course_reach [(2, 13), (0, 1)] M Q' := fun Q' qq => c_reachA (n := 1) hsl hP hC (by decide) qq
    refine r1 _ (fun M1 m1 hM1 hC1 hm1 hc1 => ?_)
    rw [hC1.l0]
    refine ⟨by unfold zI; omega, ?_⟩
    have r2 : ∀ Q' : Int → zM → Prop, (∀ M' m, zSm (zPR 8 t) M1 M' → zCk T L t M' → (L 0).toNat + 1 < m → zCo T (zbg T) m M' 8 t → Q' 0 M') → zCt G (h + 5) sl 0 0 y_Course_reach [(2, 8), (0, L 0 + 1)] M1 Q' := fun Q' qq => by
      have := c_reachT (G := G) (h := h) (n := (L 0).toNat + 1) hsl hP hC1 (by omega) qq
      rw [show (((L 0).toNat + 1 : Nat) : Int) = L 0 + 1 from by omega] at this
      exact this
    refine r2 _ (fun M2 m2 hM2 hC2 hm2 hc2 => ?_)
    have hc1' : zCo T L m1 M2 13 t := hc1.fr (fun a k p => hM2 a k (by have := hC.1; unfold zdCo at p; unfold zPR zPC zPLn zPO; omega))
    have t1 : ∀ Q' : Int → zM → Prop, Q' (zln T L 1 (1 + c)) M2 → zCt G (h + 5) sl 0 0 y_Course_told [(2, 13), (0, 1), (0, c)] M2 Q' := fun Q' qq => c_toldC (k := 1) hsl (Or.inr rfl) hP.1 hc1' hm1 (by omega) g4 qq
    refine t1 _ ?_
    rw [hC2.l0]
    refine ⟨by unfold zI; omega, ?_⟩
    have t2 : ∀ Q' : Int → zM → Prop, Q' (ztr T ((L 0).toNat + 1) (1 + c)) M2 → zCt G (h + 5) sl 0 0 y_Course_told [(2, 8), (0, L 0 + 1), (0, c)] M2 Q' := fun Q' qq => by
      have : zCt G (h + 5) sl 0 0 y_Course_told [(2, 8), (0, (((L 0).toNat + 1 : Nat) : Int)), (0, c)] M2 Q' := c_toldC hsl (Or.inl rfl) hP.1 hc2 hm2 (by omega) g4 qq
      rw [show (((L 0).toNat + 1 : Nat) : Int) = L 0 + 1 from by omega] at this
      exact this
    refine t2 _ ⟨hC2.k8, ?_⟩
    rw [hC2.2.1, hC2.2.2.1.1.2.2.1]
    have qq := q M2 ((zPR_q13 hM1).trans (zPR_q8 hM2)) hC2
    rw [if_neg (by omega), if_neg g5] at qq
    have lp := c_oddsL (G := G) (h := h + 4) (Q := Q) hsl hP hC2 (by omega) g4 (by omega) qq 9 0 (u := (0, 0, 0, 0)) (by omega)
    have hs1 := hP.1.2.2.1
    have hs2 := hP.1.2.2.2.1
    refine ⟨by unfold zI; omega, by unfold zI; omega, fun g => ?_, fun g => ?_⟩
    · rw [show zodk T L c 0 = 0 from by unfold zodk; rw [if_neg g]] at lp
      exact lp
    · rw [show zodk T L c 0 = 100 * T.1 8 0 * 9 - T.1 8 1 * 9 from by unfold zodk; rw [if_pos (by omega)]; omega] at lp
      exact lp
  · rw [if_neg (by omega), if_pos (by omega)] at q0
    rw [show 100 * T.1 8 0 * 9 = 900 * T.1 8 0 from by omega]
    exact q0
  · rw [if_pos (by omega)] at q0; exact q0
theorem m_oddsL {G : zG} {h sl : Nat} (hsl : 2 ≤ sl) {T : zTb} {L : Int → Int} {c : Int} {M0 : zM} {Q : Int → zM → Prop} (hP : zPu T L) (c0 : 0 ≤ c) (cn : c < T.1 8 0)
    (q : ∀ M1 M', zSm zPG M0 M1 → zSm (fun a k => a = 164 ∧ 0 ≤ k ∧ k < 17 ∨ a = 125 ∧ k = 57) M1 M' → (∀ j : Int, 0 ≤ j → j < 17 → M' 164 j = M1 167 j) → Q (zodk T L c 9) M') :
    ∀ (d k : Nat) (w : Int) {M : zM} {u : Nat × Nat × Nat × Nat}, d + k = 9 → zSm zPG M0 M → zTm T M → zLm (T.1 8 0) (zup (zln T L 1) (1 + c) w) M → zX G (y_Md_odds, h + 3 + 1, sl) u 121 [(0, (2, 125)), (1, (0, c)), (2, (0, zln T L 1 (1 + c))), (3, (0, ztr T ((L 0).toNat + 1) (1 + c))), (4, (0, zodk T L c k)), (5, (0, (k : Int) + 1))] [] M Q
  | 0, k, w, M, u, e, hM, hm, hl => by
    have : k = 9 := by omega
    subst this
    exact B_Md_odds_121 hsl ⟨fun _ => c_takesBack hsl (fun M' hM' r => q M M' hM hM' r), fun g => absurd (by decide) g⟩
  | d + 1, k, w, M, u, e, hM, hm, hl => by
    have h8 := hP.1.2.1
    have hv := zln_v (k := 1) hP (by decide) c0 cn
    have hb := zodk_in (L := L) (c := c) hP.1 k
    have hs1 := hP.1.2.2.1
    have hs2 := hP.1.2.2.2.1
    refine B_Md_odds_121 hsl ⟨fun g => absurd g (by omega), fun _ => ⟨by unfold zI; omega, by omega, ?_⟩⟩
    have g1 : zSm zPG M (zwr M 164 (1 + c) (zln T L 1 (1 + c))) := (zSm.refl _ M).wr (by unfold zPG; omega)
    have hl1 : zLm (T.1 8 0) (zln T L 1) (zwr M 164 (1 + c) (zln T L 1 (1 + c))) := by
      have := hl.val (v := zln T L 1 (1 + c)) h8 c0
      rw [zup_up, zup_self] at this
      exact this
    refine m_isSlipped hsl hP.1 (hm.fr g1) hl1 c0 cn hv (by omega) (fun M2 hM2 hl2 => c_valueOf hsl c0 (by omega) ?_)
    rw [(hl2.2 c c0 cn).1, zup_s]
    have hm2 := (hm.fr g1).fr hM2
    have ih := m_oddsL (G := G) (h := h) (Q := Q) hsl hP c0 cn q d (k + 1) _ (M := M2) (u := u) (by omega) ((hM.trans g1).trans hM2) hm2 hl2
    rw [zcs] at ih
    refine ⟨fun g => ⟨by unfold zI; omega, ?_⟩, fun g => ?_⟩
    · rw [show zodk T L c (k + 1) = zodk T L c k from by show zodk T L c k + _ = _; rw [if_neg g]; omega] at ih
      exact ih
    · rw [hm2.2.1]
      refine ⟨by unfold zI; omega, by unfold zI; omega, ?_⟩
      rw [show zodk T L c (k + 1) = zodk T L c k + T.1 8 1 from by show zodk T L c k + _ = _; rw [if_pos (by omega)]] at ih
      exact ih
theorem zod_eq {n s : Int} (h0 : 0 ≤ n) (h8 : n ≤ 8) : 9 * (100 - s) * n + 9 * s * (n - 1) = 900 * n - 9 * s := by
  rcases (by omega : n = 0 ∨ n = 1 ∨ n = 2 ∨ n = 3 ∨ n = 4 ∨ n = 5 ∨ n = 6 ∨ n = 7 ∨ n = 8) with rfl | rfl | rfl | rfl | rfl | rfl | rfl | rfl | rfl <;> omega
theorem zod_b {n s : Int} (h0 : 0 ≤ n) (h8 : n ≤ 8) (s0 : 0 ≤ s) (s1 : s ≤ 100) : zI (9 * (100 - s) * n) ∧ zI (9 * s * (n - 1)) ∧ zI (9 * (100 - s) * n + 9 * s * (n - 1)) := by
  unfold zI
  rcases (by omega : n = 0 ∨ n = 1 ∨ n = 2 ∨ n = 3 ∨ n = 4 ∨ n = 5 ∨ n = 6 ∨ n = 7 ∨ n = 8) with rfl | rfl | rfl | rfl | rfl | rfl | rfl | rfl | rfl <;> omega
theorem m_odds {G : zG} {h sl : Nat} (hsl : 2 ≤ sl) {T : zTb} {L : Int → Int} {c : Int} {M : zM} {Q : Int → zM → Prop} (hP : zPu T L) (hC : zMk T L M) (q : ∀ M', zSm zPB M M' → zMk T L M' → Q (zods T L c) M') : zCt G (h + 7) sl 0 0 y_Md_odds [(2, 125), (0, c)] M Q := by
  have q0 := q M (zSm.refl _ _) hC
  have hn := hP.1.1
  have h8 := hP.1.2.1
  have hl0 := hP.2.1.1
  have h9 := hP.2.2
  have hs1 := hP.1.2.2.1
  have hs2 := hP.1.2.2.2.1
  unfold zods at q q0
  have main : -1 ≤ c → c < T.1 8 0 ∨ c = -1 → ∀ u, zX G (y_Md_odds, h + 6 + 1, sl) u 14 [(0, (2, 125)), (1, (0, c))] [] M Q := fun c1 c2 u => by
    refine B_Md_odds_14 hsl (E_Md_columnMany hsl ?_)
    rw [hC.1.two]
    refine ⟨fun g => ?_, fun g => c_isAheadM hsl hC.2.1.1 hl0 h9 (by omega) (fun _ _ d => ⟨fun _ => ⟨fun g2 => c_putsAside hsl (fun M1 hM1 r1 => ?_), fun g2 => E_Md_columnMany hsl ?_⟩, fun g => absurd (by decide) g⟩) (fun d => ⟨fun x => absurd rfl x, fun _ => ?_⟩)⟩
    · rw [if_pos (by omega)] at q0; exact q0
    · have hm1 : zTm T M1 := hC.1.frG (fun a k p => hM1 a k (by unfold zdMk at p; omega))
      have hl1 := hC.2.1.fr (M' := M1) (fun k => hM1 164 k (by omega))
      refine c_lineGoes hsl hP.1 hP.2.1 (by omega) hm1 hl1 (fun M2 hM2 hl2 => c_valueOf hsl (by omega) (by omega) ?_)
      have hl2 : zLm (T.1 8 0) (zln T L 1) M2 := hl2
      have hln := zln_ok hP.1 hP.2.1 1 (by omega)
      have hm2 := hm1.fr hM2
      have ht2 : zTru T 1000 M2 := (hC.2.2.frG (fun a k p => hM1 a k (by omega))).frG (fun a k p => hM2 a k (by unfold zPG; omega))
      rw [(hl2.2 c (by omega) (by omega)).1, hl2.1, hln.1]
      refine c_trueOf hsl hP.1 ht2 (by omega) (by omega) (by omega) (by omega) ?_
      rw [show (L 0 + ((1 : Nat) : Int)).toNat = (L 0).toNat + 1 from by omega, hm2.2.1]
      have lp := fun u' => m_oddsL (G := G) (h := h + 3) (Q := Q) (M0 := M1) (c := c) hsl hP (by omega) (by omega) (fun M3 M4 h13 h34 r4 => by
        have hb := m_backed hP.1 hC hM1 r1 h13 h34 r4
        have := q M4 hb.1 hb.2
        rw [if_neg (by omega), if_neg g2] at this
        exact this) 9 0 (zln T L 1 (1 + c)) (M := M2) (u := u') (by omega) hM2 hm2 (by rw [zup_self]; exact hl2)
      refine ⟨fun g3 => ?_, fun g3 => ⟨by unfold zI; omega, by unfold zI; omega, E_Md_columnMany hsl ?_⟩⟩
      · have := lp u
        rw [show zodk T L c 0 = 0 from by unfold zodk; rw [if_neg g3]] at this
        exact this
      · rw [hm2.two]
        have hz := zod_b (n := T.1 8 0) (s := T.1 8 1) hn h8 hs1 hs2
        refine ⟨hz.1, by rw [hm2.2.1]; unfold zI; omega, E_Md_columnMany hsl ?_⟩
        rw [hm2.two, hm2.2.1]
        refine ⟨by unfold zI; omega, hz.2.1, hz.2.2, ?_⟩
        rw [zod_eq hn h8]
        have := lp u
        rw [show zodk T L c 0 = 900 * T.1 8 0 - 9 * T.1 8 1 from by unfold zodk; rw [if_pos (by omega)]] at this
        exact this
    · rw [hC.1.two]
      rw [if_neg (by omega), if_pos (by omega)] at q0
      exact ⟨by unfold zI; omega, q0⟩
    · rw [if_pos (by omega)] at q0; exact q0
  refine E_Md_odds hsl ⟨fun g => main (by omega) (Or.inr g) _, fun g => c_isColM hsl hP.1 hC.1 (fun a b => ⟨fun x => absurd x (by decide), fun _ => main (by omega) (Or.inl b) _⟩) (fun x => ⟨fun _ => ?_, fun y => absurd rfl y⟩)⟩
  rw [if_pos (by omega)] at q0; exact q0
