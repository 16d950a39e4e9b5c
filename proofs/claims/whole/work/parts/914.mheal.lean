/-! THE MODEL: heal(). -/
theorem zTru.frG {T : zTb} {m : Nat} {M M' : zM} (e : ∀ a k, a = 165 ∨ a = 166 → M' a k = M a k) (h : zTru T m M) : zTru T m M' := fun k hk c c0 cn => by
  rw [e _ _ (Or.inl rfl), e _ _ (Or.inr rfl)]
  exact h k hk c c0 cn
theorem zLm.frG {n : Int} {L : Int → Int} {M M' : zM} (h8 : n ≤ 8) (e : ∀ k, 0 ≤ k → k < 17 → M' 164 k = M 164 k) (h : zLm n L M) : zLm n L M' := ⟨by rw [e _ (by decide) (by decide)]; exact h.1, fun c c0 cn => by rw [e _ (by omega) (by omega), e _ (by omega) (by omega)]; exact h.2 c c0 cn⟩
theorem m_setsRight {G : zG} {h sl : Nat} (hsl : 2 ≤ sl) {T : zTb} {X : Int → Int} {c : Int} {M : zM} {Q : Int → zM → Prop} (hT : zTok T) (hl : zLm (T.1 8 0) X M) (ht : zTru T 1000 M) (h0 : 0 ≤ X 0) (h9 : X 0 ≤ 999) (c0 : 0 ≤ c) (cn : c < T.1 8 0)
    (q : ∀ M', zSm zPG M M' → zLm (T.1 8 0) (zup (zup X (1 + c) (ztr T (X 0).toNat (1 + c))) (9 + c) (ztr T (X 0).toNat (9 + c))) M' → Q 0 M') : zCt G (h + 1) sl 0 0 y_Md_setsRight [(2, 125), (0, c)] M Q := by
  have h8 := hT.2.1
  refine E_Md_setsRight hsl ?_
  rw [hl.1]
  refine ⟨by unfold zI; omega, c_trueOf hsl hT ht h0 h9 c0 cn ?_⟩
  have e0 : ∀ v, (zwr M 164 (1 + c) v) 164 0 = X 0 := fun v => by rw [zwr_k _ (by omega)]; exact hl.1
  rw [e0]
  have hv := (ht (X 0).toNat (by omega) c c0 cn).2
  rw [show (((X 0).toNat : Nat) : Int) = X 0 from by omega] at hv
  have e6 : ∀ v, (zwr M 164 (1 + c) v) 166 (8 * X 0 + c) = ztr T (X 0).toNat (9 + c) := fun v => by rw [zwr_o _ (by decide)]; exact hv
  rw [e6]
  refine ⟨by omega, by unfold zI; omega, by unfold zI; omega, by unfold zI; omega, by omega, by omega, q _ ?_ ?_⟩
  · exact ((zSm.refl _ M).wr (by unfold zPG; omega)).wr (by unfold zPG; omega)
  · exact (hl.val h8 c0).way h8 c0
theorem m_areTrueL {G : zG} {h sl : Nat} (hsl : 2 ≤ sl) {T : zTb} {n : Nat} {M0 : zM} {Q : Int → zM → Prop} (hT : zTok T) (hm9 : n ≤ 60) :
    ∀ (d i : Nat) (X : Int → Int) {M : zM} {u : Nat × Nat × Nat × Nat}, d + i = n → zSm zPG M0 M → zTm T M → zTru T 1000 M → zLm (T.1 8 0) X M → zLok T (T.1 8 0) X → X 0 + d ≤ 999 → (∀ M', zSm zPG M0 M' → Q (if zhb T X d = true then 1 else 0) M') → zX G (y_Md_areTrueFor, h + 5 + 1, sl) u 2 [(0, (2, 125)), (1, (0, (n : Int))), (2, (0, (i : Int)))] [] M Q
  | 0, i, X, M, u, e, hM, hm, ht, hl, hL, h9, q => B_Md_areTrueFor_2 hsl ⟨fun _ => q M hM, fun g => absurd (by omega) g⟩
  | d + 1, i, X, M, u, e, hM, hm, ht, hl, hL, h9, q => by
    have h0 := hL.1
    refine B_Md_areTrueFor_2 hsl ⟨fun g => absurd g (by omega), fun _ => c_lineGoes hsl hT hL (by omega) hm hl (fun M1 hM1 hl1 => ?_)⟩
    have hm1 := hm.fr hM1
    have ht1 := ht.frG (fun a k p => hM1 a k (by unfold zPG; omega))
    have hL1 := znx_ok hT hL (by omega)
    have e1 : znx T X 0 = X 0 + 1 := znx_0 hT
    unfold zhb at q
    have hz := zwg_in (znx T X) (ztr T (znx T X 0).toNat) (T.1 8 0).toNat
    have hz' : 0 ≤ zwm T (znx T X) := hz.1
    refine c_wrongMany hsl hT hm1 hl1 ht1 (by omega) ⟨fun g => ⟨by unfold zI; omega, ?_⟩, fun g => ?_⟩
    · have g0 : zwm T (znx T X) = 0 := by omega
      rw [if_pos g0] at q
      have := m_areTrueL (G := G) (h := h) (Q := Q) hsl hT hm9 d (i + 1) (znx T X) (M := M1) (u := u) (by omega) (hM.trans hM1) hm1 ht1 hl1 hL1 (by omega) q
      rw [zcs] at this
      exact this
    · have := q M1 (hM.trans hM1)
      have g0 : ¬ zwm T (znx T X) = 0 := by omega
      rw [if_neg g0] at this
      exact this
/-- the Model tries: so it stands between two sets -/
def zTry (T : zTb) (L : Int → Int) (M0 M : zM) : Prop := zSm zPG M0 M ∧ zTm T M ∧ zTru T 1000 M ∧ zLm (T.1 8 0) L M
theorem m_healI {G : zG} {h sl : Nat} (hsl : 2 ≤ sl) {T : zTb} {L : Int → Int} {b : Int} {n s : Nat} {M0 : zM} {Q : Int → zM → Prop} (hP : zPu T L) (h9 : L 0 + n ≤ 999) (h60 : n ≤ 60) (hs : s < 256)
    (q : ∀ M' u b', zSm zPG M0 M' → b' = (if zpm T L n s = true then (s : Int) else b) → zX G (y_Md_heal, h + 6 + 1, sl) u 133 [(0, (2, 125)), (1, (0, (n : Int))), (2, (0, b')), (3, (0, (s : Int)))] [] M' Q) :
    ∀ (d k : Nat) {M : zM} {u : Nat × Nat × Nat × Nat}, d + k = (T.1 8 0).toNat → zns T s k = true → zTry T (zht T L s k) M0 M → zX G (y_Md_heal, h + 6 + 1, sl) u 58 [(0, (2, 125)), (1, (0, (n : Int))), (2, (0, b)), (3, (0, (s : Int))), (4, (0, 1)), (5, (0, (k : Int)))] [] M Q
  | 0, k, M, u, e, hk, hy => by
    have hn := hP.1.1
    have hl0 := hP.2.1.1
    have ek : (T.1 8 0).toNat = k := by omega
    obtain ⟨hM, hm, ht, hl⟩ := hy
    refine B_Md_heal_58 hsl (E_Md_columnMany hsl ?_)
    rw [hm.two]
    refine ⟨fun _ => B_Md_heal_118 hsl ⟨fun g => absurd g (by decide), fun _ => E_Md_areTrueFor hsl (m_areTrueL (h := h) (M0 := M) hsl hP.1 h60 n 0 (zht T L s k) (by omega) (zSm.refl _ _) hm ht hl (zht_ok hP s k) (by rw [zht_z]; omega) (fun M' hM' => ?_))⟩, fun g => absurd (by omega) g⟩
    have hz : zpm T L n s = zhb T (zht T L s k) n := by unfold zpm; rw [ek, hk]; rfl
    refine ⟨fun g => q M' u b (hM.trans hM') ?_, fun g => q M' u s (hM.trans hM') ?_⟩
    · rw [hz, if_neg (fun x => by rw [if_pos x] at g; exact absurd g (by decide))]
    · rw [hz, if_pos (by apply Classical.byContradiction; intro x; rw [if_neg x] at g; exact g rfl)]
  | d + 1, k, M, u, e, hk, hy => by
    have hn := hP.1.1
    have h8 := hP.1.2.1
    have hl0 := hP.2.1.1
    obtain ⟨hM, hm, ht, hl⟩ := hy
    have hb := zbt_n hs (c := (k : Int)) (by omega) (by omega)
    rw [show ((k : Int)).toNat = k from by omega] at hb
    unfold zbt at hb
    refine B_Md_heal_58 hsl (E_Md_columnMany hsl ?_)
    rw [hm.two]
    refine ⟨fun g => absurd g (by omega), fun _ => ⟨fun g => absurd g (by decide), fun _ => ?_⟩⟩
    rw [hb]
    have nsk : zns T s (k + 1) = (zns T s k && !(decide (s / 2 ^ k % 2 = 1) && decide (T.1 k 0 = 3))) := rfl
    have next : ∀ M1 : zM, zns T s (k + 1) = true → zTry T (zht T L s (k + 1)) M0 M1 → zI ((k : Int) + 1) ∧ zX G (y_Md_heal, h + 6 + 1, sl) u 58 [(0, (2, 125)), (1, (0, (n : Int))), (2, (0, b)), (3, (0, (s : Int))), (4, (0, 1)), (5, (0, (k : Int) + 1))] [] M1 Q := fun M1 h1 h2 => ⟨by unfold zI; omega, by
      have := m_healI (G := G) (h := h) (Q := Q) hsl hP h9 h60 hs q d (k + 1) (M := M1) (u := u) (by omega) h1 h2
      rw [zcs] at this
      exact this⟩
    refine ⟨fun g => c_sortOf hsl (by omega) (by omega) ?_, fun g => next M ?_ ?_⟩
    · have hbit : s / 2 ^ k % 2 = 1 := by omega
      rw [(hm.2.2.2.1 (k : Int) (by omega) (by omega)).1]
      refine ⟨fun g2 => B_Md_heal_99 hsl ⟨fun _ => ⟨by unfold zI; omega, ?_⟩, fun x => absurd rfl x⟩, fun g2 => B_Md_heal_99 hsl ⟨fun x => absurd x (by decide), fun _ => m_setsRight hsl hP.1 hl ht (by rw [zht_z]; omega) (by rw [zht_z]; omega) (by omega) (by omega) (fun M1 hM1 hl1 => next M1 ?_ ⟨hM.trans hM1, hm.fr hM1, ht.frG (fun a k p => hM1 a k (by unfold zPG; omega)), ?_⟩)⟩⟩
      · have hno : zpm T L n s = false := by
          unfold zpm
          have : zns T s (T.1 8 0).toNat = false := by
            cases hh : zns T s (T.1 8 0).toNat with
            | false => rfl
            | true => exact absurd g2 (zns_iff.mp hh k (by omega) hbit)
          rw [this]
          rfl
        have q' := fun u' => q M u' b hM (by rw [hno]; rfl)
        refine B_Md_heal_58 hsl (E_Md_columnMany hsl ?_)
        rw [hm.two]
        exact ⟨fun _ => B_Md_heal_118 hsl ⟨fun _ => q' u, fun x => absurd rfl x⟩, fun _ => ⟨fun _ => B_Md_heal_118 hsl ⟨fun _ => q' u, fun x => absurd rfl x⟩, fun x => absurd rfl x⟩⟩
      · rw [nsk, hk]
        simp [g2]
      · rw [zht_yes (by omega) hbit]
        rw [zht_z] at hl1
        exact hl1
    · rw [nsk, hk]
      simp
      omega
    · rw [zht_no (by omega) (by omega)]
      exact ⟨hM, hm, ht, hl⟩
theorem m_healL {G : zG} {h sl : Nat} (hsl : 2 ≤ sl) {T : zTb} {L : Int → Int} {n : Nat} {M0 : zM} {Q : Int → zM → Prop} (hP : zPu T L) (h9 : L 0 + n ≤ 999) (h60 : n ≤ 60) (hy0 : zTry T L M0 M0) (h167 : ∀ j : Int, 0 ≤ j → j < 17 → M0 167 j = M0 164 j)
    (q : ∀ M1 M', zSm zPG M0 M1 → zSm (fun a k => a = 164 ∧ 0 ≤ k ∧ k < 17 ∨ a = 125 ∧ k = 57) M1 M' → (∀ j : Int, 0 ≤ j → j < 17 → M' 164 j = M1 167 j) → Q (zsc (zpm T L n) (2 ^ (T.1 8 0).toNat)).1 M') :
    ∀ (d s : Nat) (x : Int × Int) {M : zM} {u : Nat × Nat × Nat × Nat}, d + s = 2 ^ (T.1 8 0).toNat → x = zsc (zpm T L n) s → zTry T L M0 M → zX G (y_Md_heal, h + 6 + 1, sl) u 22 [(0, (2, 125)), (1, (0, (n : Int))), (2, (0, x.1)), (3, (0, (s : Int)))] [] M Q
  | 0, s, x, M, u, e, ex, hy => by
    have hn := hP.1.1
    have h8 := hP.1.2.1
    obtain ⟨hM, hm, ht, hl⟩ := hy
    refine B_Md_heal_22 hsl (E_Md_columnMany hsl ?_)
    rw [hm.two, zshl_n hn h8]
    refine ⟨fun _ => c_takesBack hsl (fun M' hM' r => ?_), fun g => absurd (by omega) g⟩
    have := q M M' hM hM' r
    rw [show 2 ^ (T.1 8 0).toNat = s from by omega, ← ex] at this
    exact this
  | d + 1, s, x, M, u, e, ex, hy => by
    have hn := hP.1.1
    have h8 := hP.1.2.1
    have hp8 : 2 ^ (T.1 8 0).toNat ≤ 256 := Nat.pow_le_pow_right (n := 2) (by decide) (show (T.1 8 0).toNat ≤ 8 by omega)
    obtain ⟨hM, hm, ht, hl⟩ := hy
    have hb := zbn_le s
    have fin : ∀ (M1 : zM) (u' : Nat × Nat × Nat × Nat) (x' : Int × Int), zSm zPG M0 M1 → x' = zsc (zpm T L n) (s + 1) → zX G (y_Md_heal, h + 6 + 1, sl) u' 133 [(0, (2, 125)), (1, (0, (n : Int))), (2, (0, x'.1)), (3, (0, (s : Int)))] [] M1 Q := fun M1 u' x' h1 h2 => by
      refine B_Md_heal_133 hsl (c_triesAnew hsl (fun M2 hM2 r2 => ⟨by unfold zI; omega, ?_⟩))
      have hM2' : zSm zPG M0 M2 := h1.trans (hM2.mono (fun a k p => by unfold zPG; omega))
      have hl2 : zLm (T.1 8 0) L M2 := hy0.2.2.2.frG h8 (fun k k0 k1 => by rw [r2 k k0 k1, h1 167 k (by unfold zPG; omega), h167 k k0 k1])
      have := m_healL (G := G) (h := h) (Q := Q) hsl hP h9 h60 hy0 h167 q d (s + 1) x' (M := M2) (u := u') (by omega) h2 ⟨hM2', hy0.2.1.fr hM2', hy0.2.2.1.frG (fun a k p => hM2' a k (by unfold zPG; omega)), hl2⟩
      rw [zcs] at this
      exact this
    have run : (zbn s : Int) < x.2 → zX G (y_Md_heal, h + 6 + 1, sl) u 58 [(0, (2, 125)), (1, (0, (n : Int))), (2, (0, x.1)), (3, (0, (s : Int))), (4, (0, 1)), (5, (0, 0))] [] M Q := fun hlt => by
      refine m_healI (M0 := M0) (s := s) hsl hP h9 h60 (by omega) (fun M' u' b' h1 h2 => ?_) (T.1 8 0).toNat 0 (by omega) rfl ⟨hM, hm, ht, by rw [zht_0]; exact hl⟩
      by_cases c : zpm T L n s = true
      · rw [if_pos c] at h2
        subst h2
        exact fin M' u' ((s : Int), (zbn s : Int)) h1 (zsc_yes c (by rw [← ex]; exact hlt)).symm
      · rw [if_neg c] at h2
        subst h2
        exact fin M' u' x h1 (by rw [zsc_no (fun y => c y.1)]; exact ex)
    refine B_Md_heal_22 hsl (E_Md_columnMany hsl ?_)
    rw [hm.two, zshl_n hn h8]
    refine ⟨fun g => absurd g (by omega), fun _ => ?_⟩
    have hx := zsc_in (zpm T L n) s
    rw [← ex] at hx
    rcases hx with ⟨hx1, hx2⟩ | ⟨r, r1, r2, r3⟩
    · exact ⟨fun _ => run (by omega), fun g => absurd hx1 g⟩
    · refine ⟨fun g => absurd g (by omega), fun _ => m_bits hsl (by omega) ?_⟩
      have hmb : zCt G (h + 6) sl 0 0 y_Md_bits [(0, (r : Int))] M (fun r7 M8 => (r7 ≤ (zbn s : Int) → zX G (y_Md_heal, h + 6 + 1, sl) u 58 [(0, (2, 125)), (1, (0, (n : Int))), (2, (0, x.1)), (3, (0, (s : Int))), (4, (0, 0)), (5, (0, 0))] [] M8 Q) ∧ (¬ r7 ≤ (zbn s : Int) → zX G (y_Md_heal, h + 6 + 1, sl) u 58 [(0, (2, 125)), (1, (0, (n : Int))), (2, (0, x.1)), (3, (0, (s : Int))), (4, (0, 1)), (5, (0, 0))] [] M8 Q)) := by
        refine m_bits hsl (by omega) ⟨fun g => ?_, fun g => run (by omega)⟩
        have q' := fun u' => fin M u' x hM (by rw [zsc_no (fun y => by rw [← ex] at y; omega)]; exact ex)
        refine B_Md_heal_58 hsl (E_Md_columnMany hsl ?_)
        rw [hm.two]
        exact ⟨fun _ => B_Md_heal_118 hsl ⟨fun _ => q' u, fun x => absurd rfl x⟩, fun _ => ⟨fun _ => B_Md_heal_118 hsl ⟨fun _ => q' u, fun x => absurd rfl x⟩, fun x => absurd rfl x⟩⟩
      rw [← r2] at hmb
      exact hmb
theorem m_heal {G : zG} {h sl : Nat} (hsl : 2 ≤ sl) {T : zTb} {L : Int → Int} {n : Int} {M : zM} {Q : Int → zM → Prop} (hP : zPu T L) (hC : zMk T L M) (q : ∀ M', zSm zPB M M' → zMk T L M' → Q (zhea T L n) M') : zCt G (h + 7) sl 0 0 y_Md_heal [(2, 125), (0, n)] M Q := by
  have q0 := q M (zSm.refl _ _) hC
  have h0 := hP.2.1.1
  unfold zhea at q q0
  refine E_Md_heal hsl (c_isAheadM hsl hC.2.1.1 h0 hP.2.2 (by omega) (fun a b c => ⟨fun _ => c_putsAside hsl (fun M1 hM1 r1 => ?_), fun g => absurd (by decide) g⟩) (fun g => ⟨fun y => absurd rfl y, fun _ => ?_⟩))
  · obtain ⟨k, rfl⟩ : ∃ k : Nat, n = k := ⟨n.toNat, by omega⟩
    have hm1 : zTm T M1 := hC.1.frG (fun a k p => hM1 a k (by unfold zdMk at p; omega))
    have hl1 := hC.2.1.fr (M' := M1) (fun k => hM1 164 k (by omega))
    refine m_healL (h := h) (M0 := M1) hsl hP c (by omega) ⟨zSm.refl _ _, hm1, hC.2.2.frG (fun a k p => hM1 a k (by omega)), hl1⟩ (fun j j0 j1 => by rw [r1 j j0 j1, hM1 164 j (by omega)]) (fun M2 M3 h12 h23 r3 => ?_) (2 ^ (T.1 8 0).toNat) 0 (-1, 9) (by omega) rfl ⟨zSm.refl _ _, hm1, hC.2.2.frG (fun a k p => hM1 a k (by omega)), hl1⟩
    have hb := m_backed hP.1 hC hM1 r1 h12 h23 r3
    have := q M3 hb.1 hb.2
    rw [if_pos ⟨a, b, c⟩, show ((k : Int)).toNat = k from by omega] at this
    exact this
  · rw [if_neg (by omega)] at q0; exact q0
