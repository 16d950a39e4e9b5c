theorem zPS_PG {M M' : zM} (h : zSm zPS M M') : zSm zPG M M' := h.mono (fun o k p => by unfold zPS at p; unfold zPG; omega)
theorem zTok1.code {T : zTb} {c : Int} (h : zTok1 T c) (hs : T.1 c 0 = 2 ∨ T.1 c 0 = 3) : zty (zokT c true) (T.2 c) [] = some [false] := by
  unfold zTok1 at h
  rcases h with h | h | h | h
  · omega
  · omega
  · exact h.2.2.2.2.2.2.2
  · exact h.2.2.2.2
theorem c_zigs {G : zG} {h sl : Nat} (hsl : 2 ≤ sl) {T : zTb} {c n : Int} {L : Int → Int} {M : zM} {Q : Int → zM → Prop} (hs : T.1 c 0 = 0) (hb : -1000 ≤ T.1 c 1 ∧ T.1 c 1 ≤ 1000 ∧ -1000 ≤ T.1 c 2 ∧ T.1 c 2 ≤ 1000 ∧ -1000 ≤ T.1 c 5 ∧ T.1 c 5 ≤ 1000) (hv : -1000000 ≤ L (1 + c) ∧ L (1 + c) ≤ 1000000) (h0 : 0 ≤ c) (hc : c < n) (hn : n ≤ 8) (ht : zTm1 T M c) (hm : zLm n L M) (q : ∀ M', zSm zPG M M' → zLm n (zmv T L c) M' → Q 0 M') : zCt G (h + 1) sl 0 0 y_Md_zigs [(2, 125), (0, c)] M Q := by
  obtain ⟨t0, t1, t2, t3, t4, t5, t6, _⟩ := ht
  rw [if_neg (by omega)] at t1
  rw [if_neg (by omega)] at t2
  have hval := (hm.2 c h0 hc).1
  have hway := (hm.2 c h0 hc).2
  have fin : ∀ v, v = zzv L c (T.1 c 5) → zX G (y_Md_zigs, h + 1, sl) (0, 0, 0, 0) 37 [(0, (2, 125)), (1, (0, c))] [(0, v)] M Q := fun v e => by
    have hzz : zzv L c (T.1 c 5) = L (1 + c) + T.1 c 5 ∨ zzv L c (T.1 c 5) = L (1 + c) - T.1 c 5 := by
      unfold zzv
      split
      · exact Or.inl rfl
      · exact Or.inr rfl
    have hq : ∀ M', zSm zPG M M' → zLm n (zzg (T.1 c 1) (T.1 c 2) (T.1 c 5) L c) M' → Q 0 M' := fun M' a b => q M' a (by unfold zmv; rw [if_pos hs]; exact b)
    unfold zzg at hq
    rw [← e] at hq hzz
    refine B_Md_zigs_37 hsl (c_fieldOf hsl h0 (by omega) (by decide) (by decide) ?_)
    rw [t2]
    refine ⟨fun g => c_fieldOf hsl h0 (by omega) (by decide) (by decide) ?_, fun g => c_fieldOf hsl h0 (by omega) (by decide) (by decide) ?_⟩
    · rw [t1]
      rw [if_neg (by omega)] at hq
      refine ⟨fun g2 => ⟨by unfold zI; omega, by omega, hq _ ((zSm.refl _ M).wr (by unfold zPG; omega)) ?_⟩, fun g2 => c_fieldOf hsl h0 (by omega) (by decide) (by decide) ?_⟩
      · rw [if_neg (by omega)]
        exact hm.val hn h0
      · rw [t1]
        rw [if_pos (by omega)] at hq
        exact ⟨by unfold zI; omega, by unfold zI; omega, by unfold zI; omega, by omega, by unfold zI; omega, by omega, hq _ (((zSm.refl _ M).wr (by unfold zPG; omega)).wr (by unfold zPG; omega)) ((hm.way hn h0).val hn h0)⟩
    · rw [t2]
      rw [if_pos (by omega)] at hq
      exact ⟨by unfold zI; omega, by unfold zI; omega, by unfold zI; omega, by omega, by unfold zI; omega, by omega, hq _ (((zSm.refl _ M).wr (by unfold zPG; omega)).wr (by unfold zPG; omega)) ((hm.way hn h0).val hn h0)⟩
  refine E_Md_zigs hsl (c_fieldOf hsl h0 (by omega) (by decide) (by decide) ?_)
  rw [t3, hway]
  refine ⟨by unfold zI; omega, by omega, fun g => c_valueOf hsl h0 (by omega) ?_, fun g => c_valueOf hsl h0 (by omega) ?_⟩
  · rw [hval]
    exact ⟨by unfold zI; omega, fin _ (by unfold zzv; rw [if_neg g])⟩
  · rw [hval]
    exact ⟨by unfold zI; omega, fin _ (by unfold zzv; rw [if_pos (by omega)])⟩
theorem zprod {x b m n : Int} (h0 : 0 ≤ x) (h1 : x ≤ m) (h2 : 0 ≤ b) (h3 : b ≤ n) : 0 ≤ x * b ∧ x * b ≤ m * n := ⟨Int.mul_nonneg h0 h2, Int.mul_le_mul h1 h3 h2 (by omega)⟩
theorem c_arcs {G : zG} {h sl : Nat} (hsl : 2 ≤ sl) {T : zTb} {c n : Int} {L : Int → Int} {M : zM} {Q : Int → zM → Prop} (hs : T.1 c 0 = 1) (hk : zTok1 T c) (hv : 0 ≤ L (1 + c) ∧ L (1 + c) ≤ T.1 c 2) (h0 : 0 ≤ c) (hc : c < n) (hn : n ≤ 8) (ht : zTm1 T M c) (hm : zLm n L M) (q : ∀ M', zSm zPG M M' → zLm n (zmv T L c) M' → Q 0 M') : zCt G (h + 1) sl 0 0 y_Md_arcs [(2, 125), (0, c)] M Q := by
  obtain ⟨t0, t1, t2, t3, t4, t5, t6, _⟩ := ht
  rw [if_pos hs] at t1
  rw [if_pos (Or.inl hs)] at t2
  have hval := (hm.2 c h0 hc).1
  unfold zTok1 at hk
  have hq : ∀ v, v = zarc (T.1 c 7) (T.1 c 2) (T.1 c 5) (T.1 c 6) (L (1 + c)) → Q 0 (zwr M 164 (1 + c) v) := fun v e => by
    refine q _ ((zSm.refl _ M).wr (by unfold zPG; omega)) ?_
    unfold zmv
    rw [if_neg (by omega), if_pos hs, ← e]
    exact hm.val hn h0
  have td : ∀ {x b : Int}, 0 ≤ x → 0 ≤ Int.tdiv x b ∧ Int.tdiv x b ≤ x ∨ b < 0 := fun {x b} hx => by
    by_cases hb : b < 0
    · exact Or.inr hb
    · rw [Int.tdiv_eq_ediv_of_nonneg hx]
      exact Or.inl ⟨Int.ediv_nonneg hx (by omega), Int.ediv_le_self _ hx⟩
  unfold zarc at hq
  refine E_Md_arcs hsl (c_fieldOf hsl h0 (by omega) (by decide) (by decide) ?_)
  refine c_fieldOf hsl h0 (by omega) (by decide) (by decide) ?_
  refine c_fieldOf hsl h0 (by omega) (by decide) (by decide) ?_
  refine c_fieldOf hsl h0 (by omega) (by decide) (by decide) ?_
  refine c_valueOf hsl h0 (by omega) ?_
  rw [t1, t2, t3, t6, hval]
  refine ⟨fun g => ⟨by unfold zI; omega, by unfold zI; omega, fun g2 => ?_, fun g2 => ⟨by omega, hq _ (by rw [if_neg (by omega), if_pos (by omega)])⟩⟩, fun g => ⟨by unfold zI; omega, by unfold zI; omega, fun g2 => ?_, fun g2 => ⟨by omega, hq _ (by rw [if_pos (by omega), if_pos (by omega)])⟩⟩⟩
  · have hp := zprod (x := L (1 + c) + T.1 c 6 - (T.1 c 2 + 1)) (b := T.1 c 5) (m := 2000) (n := 2000) (by omega) (by omega) (by omega) (by omega)
    have hd := td (b := T.1 c 6) hp.1
    exact ⟨by unfold zI; omega, by unfold zI; omega, by omega, by unfold zI; omega, by omega, hq _ (by rw [if_neg (by omega), if_neg (by omega)])⟩
  · have hp := zprod (x := L (1 + c) + T.1 c 5 - T.1 c 7) (b := T.1 c 6) (m := 2000) (n := 2000) (by omega) (by omega) (by omega) (by omega)
    have hd := td (b := T.1 c 5) hp.1
    exact ⟨by unfold zI; omega, by unfold zI; omega, by omega, by unfold zI; omega, by unfold zI; omega, by omega, hq _ (by rw [if_pos (by omega), if_neg (by omega)])⟩
theorem c_goesOn {G : zG} {h sl : Nat} (hsl : 2 ≤ sl) {T : zTb} {c n : Int} {L : Int → Int} {M : zM} {Q : Int → zM → Prop} (hT : ∀ c, 0 ≤ c → c < n → zTok1 T c) (hL : zLok T n L) (h0 : 0 ≤ c) (hc : c < n) (hn : n ≤ 8) (ht : zTm1 T M c) (hm : zLm n L M) (q : ∀ M', zSm zPG M M' → zLm n (zmv T L c) M' → Q 0 M') : zCt G (h + 4) sl 0 0 y_Md_goesOn [(2, 125), (0, c)] M Q := by
  have hk := hT c h0 hc
  have hcok := hL.2.2 c h0 hc
  have hin := hcok.in hk
  have hval := (hm.2 c h0 hc).1
  have htt := ht
  obtain ⟨t0, t1, t2, t3, t4, t5, t6, t7⟩ := htt
  have hsort : 0 ≤ T.1 c 0 ∧ T.1 c 0 ≤ 3 := by unfold zTok1 at hk; omega
  refine E_Md_goesOn hsl (c_sortOf hsl h0 (by omega) ?_)
  rw [t0]
  refine ⟨fun g0 => ⟨fun g1 => ⟨fun g2 => ?_, fun g2 => ?_⟩, fun g1 => ?_⟩, fun g0 => ?_⟩
  · have hs : T.1 c 0 = 3 := by omega
    refine ⟨by unfold zI; omega, c_valueOf hsl h0 (by omega) ?_⟩
    rw [hval]
    refine c_summed hsl (T := T) (n := n) (L := L) (fun e a _ b => hT e a b) h0 (by omega) hn (by omega) (hk.code (Or.inr hs)) (t7 (by omega)) hL hm hin (fun M' hh => ⟨by omega, ?_⟩)
    refine q _ ((zPS_PG hh).wr (by unfold zPG; omega)) ?_
    unfold zmv
    rw [if_neg g0, if_neg g1, if_neg g2]
    exact (hm.fr (fun j => hh 164 j (by unfold zPS; omega))).val hn h0
  · have hs : T.1 c 0 = 2 := by omega
    have hsm := zsm_in (prev := L (1 + c)) hT hL h0 hc (Or.inl hs) hin
    refine ⟨by unfold zI; omega, c_valueOf hsl h0 (by omega) (c_valueOf hsl h0 (by omega) ?_)⟩
    rw [hval]
    refine c_summed hsl (T := T) (n := n) (L := L) (fun e a _ b => hT e a b) h0 (by omega) hn (by omega) (hk.code (Or.inl hs)) (t7 (by omega)) hL hm hin (fun M' hh => ⟨by unfold zL; omega, c_fieldOf hsl h0 (by omega) (by decide) (by decide) ?_⟩)
    rw [hh 160 _ (by unfold zPS; omega), t2, if_pos (Or.inr hs)]
    refine c_around hsl (by unfold zTok1 at hk; omega) (by unfold zTok1 at hk; omega) ⟨by omega, ?_⟩
    refine q _ ((zPS_PG hh).wr (by unfold zPG; omega)) ?_
    unfold zmv
    rw [if_neg g0, if_neg g1, if_pos hs]
    exact (hm.fr (fun j => hh 164 j (by unfold zPS; omega))).val hn h0
  · have hs : T.1 c 0 = 1 := by omega
    refine c_arcs (h := h + 2) hsl hs hk ?_ h0 hc hn ht hm q
    unfold zCok at hcok
    rw [if_neg (by omega)] at hcok
    unfold zTok1 at hk
    omega
  · have hs : T.1 c 0 = 0 := by omega
    refine c_zigs (h := h + 2) hsl hs ?_ hin h0 hc hn ht hm q
    unfold zTok1 at hk
    omega
theorem zTm.two {T : zTb} {M : zM} (h : zTm T M) : M 158 2 = T.1 8 0 := h.1
theorem c_lineGoesL {G : zG} {h sl : Nat} (hsl : 2 ≤ sl) {T : zTb} {L : Int → Int} {M0 : zM} {Q : Int → zM → Prop} (hT : zTok T) (hL : zLok T (T.1 8 0) L) (h9 : L 0 < 9000) (q : ∀ M', zSm zPG M0 M' → zLm (T.1 8 0) (znx T L) M' → Q 0 M') :
    ∀ (d k : Nat) {M : zM} {u : Nat × Nat × Nat × Nat}, d + k = (T.1 8 0).toNat → zSm zPG M0 M → zTm T M → zLm (T.1 8 0) (znk T L k) M → zX G (y_Md_lineGoes, h + 5, sl) u 12 [(0, (2, 125)), (1, (0, (k : Int)))] [] M Q
  | 0, k, M, u, e, hM, hm, hl => by
    have hn := hT.1
    refine B_Md_lineGoes_12 hsl (E_Md_columnMany hsl ?_)
    rw [hm.two]
    refine ⟨fun _ => q M hM ?_, fun g => absurd (by omega) g⟩
    have : (T.1 8 0).toNat = k := by omega
    unfold znx
    rw [this]
    exact hl
  | d + 1, k, M, u, e, hM, hm, hl => by
    have hn := hT.1
    have hn8 := hT.2.1
    refine B_Md_lineGoes_12 hsl (E_Md_columnMany hsl ?_)
    rw [hm.two]
    refine ⟨fun g => absurd g (by omega), fun g => c_goesOn hsl hT.2.2.2.2.2.2.2 (znk_ok hT.2.2.2.2.2.2.2 hT.2.1 hL h9 k (by omega)) (by omega) (by omega) hT.2.1 (hm.2.2.2.1 k (by omega) (by omega)) hl (fun M' hh hl' => ⟨by unfold zI; omega, ?_⟩)⟩
    have := c_lineGoesL (G := G) (h := h) (Q := Q) hsl hT hL h9 q d (k + 1) (M := M') (u := u) (by omega) (hM.trans hh) (hm.fr hh) hl'
    simpa using this
theorem c_lineGoes {G : zG} {h sl : Nat} (hsl : 2 ≤ sl) {T : zTb} {L : Int → Int} {M : zM} {Q : Int → zM → Prop} (hT : zTok T) (hL : zLok T (T.1 8 0) L) (h9 : L 0 < 9000) (hm : zTm T M) (hl : zLm (T.1 8 0) L M) (q : ∀ M', zSm zPG M M' → zLm (T.1 8 0) (znx T L) M' → Q 0 M') : zCt G (h + 5) sl 0 0 y_Md_lineGoes [(2, 125)] M Q := by
  have h0 := hL.1
  have hM0 : zSm zPG M (zwr M 164 0 (M 164 0 + 1)) := (zSm.refl _ M).wr (by unfold zPG; omega)
  refine E_Md_lineGoes hsl ⟨by rw [hl.1]; unfold zI; omega, ?_⟩
  refine c_lineGoesL (M0 := M) hsl hT hL h9 q (T.1 8 0).toNat 0 (by omega) hM0 (hm.fr hM0) ⟨by rw [zwr_s, hl.1]; exact (zup_s _ _ _).symm, fun c c0 cc => ?_⟩
  rw [zwr_k _ (by omega), zwr_k _ (by omega)]
  show _ = zup L 0 (L 0 + 1) _ ∧ _ = zup L 0 (L 0 + 1) _
  rw [zup_o _ _ (by omega), zup_o _ _ (by omega)]
  exact hl.2 c c0 cc
theorem c_isMarkedM {G : zG} {h sl : Nat} (hsl : 2 ≤ sl) {T : zTb} {L : Int → Int} {M : zM} {Q : Int → zM → Prop} (hT : zTok T) (hL : zLok T (T.1 8 0) L) (hm : zTm T M) (hl : zLm (T.1 8 0) L M) (q : ∀ M', zSm zPS M M' → Q (zmk T L) M') : zCt G (h + 3) sl 0 0 y_Md_isMarked [(2, 125)] M Q := by
  unfold zmk at q
  refine E_Md_isMarked hsl ⟨fun g => ?_, fun g => ?_⟩
  · rw [hm.2.2.1] at g
    rw [if_neg (by omega)] at q
    exact q M (zSm.refl _ M)
  · rw [hm.2.2.1] at g
    have hk := hT.2.2.2.2.2.2.1
    have h1 : T.1 8 3 = 1 := by omega
    have hz : zty (zokT (T.1 8 0) false) (T.2 8) [] = some [true] := by
      rcases hk with hk | hk
      · omega
      · exact hk.2
    rw [if_pos h1] at q
    obtain ⟨c1, c2, c3, c4⟩ := hm.2.2.2.2 h1
    have hE := zEn_ok (k := T.1 8 0) (prev := 0) (pv := false) hT.2.2.2.2.2.2.2 hL (by omega) (fun c => by cases c)
    refine c_codesTell hsl (ok := zokT (T.1 8 0) false) (E := zEn L 0) (ty := true) (cs := T.2 8) ⟨by omega, by omega⟩ hE (fun v a b => ?_) (fun M' hh => zScM_of hsl hT.2.1 (by omega) (hl.fr (fun j => hh 164 j (by unfold zPT; omega))) (fun c => by cases c)) c1 c2 c3 c4 hz (fun M' hh => ?_)
    · have := hT.2.1
      cases e : zokT (T.1 8 0) false v with
      | false => rfl
      | true => rw [zokT_ok] at e; omega
    · have hh' : zSm zPS M M' := hh.mono (fun o k p => by unfold zPT at p; unfold zPS; omega)
      have := q M' hh'
      refine ⟨fun c => ?_, fun c => ?_⟩
      · rw [if_neg c] at this; exact this
      · rw [if_pos (by omega)] at this; exact this
