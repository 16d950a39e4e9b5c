/-! PARSER, the class: a part. -/
theorem c_rasked {G : zG} {h sl : Nat} (hsl : 1 ≤ sl) {md : Int} {T : zTb} {m : Nat} {t c op : Int} {B : Int → Int} {n s hh dp e : Nat} {ok : Int → Bool} {I : Option zPfu} {C : List Int} {M : zM} {Q : Int → zM → Prop} (hn : n ≤ 1600) (hm : m ≤ 8) (hc : zcob c) (h0 : 0 ≤ op ∧ op ≤ 6) (hI : zIc G sl md T m t c B n s y_Reader_part op hh ok false dp I) (hh' : hh ≤ h + 4) (he : e ≤ n) (hs : s + C.length ≤ e) (hr : zRp md T m t c B n s e C M) (hw : zwrd B n e zo_ahead = true ∨ zwrd B n e zo_col = true)
    (qo : ∀ e' D, zins B n I e (fun f => zbd (f (zto B n e)) (fun r => .inr (r.1, r.2 ++ [if zwrd B n e zo_ahead = true then 60 else 61]))) = .inr (e', D) → ∀ M', zSm (zPrp c) M M' → zRp md T m t c B n s e' (C ++ D) M' → Q 1 M') (qn : ∀ f p, zins B n I e (fun f => zbd (f (zto B n e)) (fun r => .inr (r.1, r.2 ++ [if zwrd B n e zo_ahead = true then 60 else 61]))) = .inl (f, p) → ∀ M', zSm (zPrp c) M M' → zRF f p M' → M' 72 6 = c → 0 ≤ M' c 2 → Q 0 M') : zCt G (h + 5) sl 0 0 y_Reader_askedPart [(2, 72), (0, op)] M Q := by
  have hb : e + 1 ≤ zto B n e ∧ zto B n e ≤ n := by
    rcases hw with a | a
    · exact zwrd_e he a
    · exact zwrd_e he a
  have go : ∀ (v s0 : Int) u, v = (if zwrd B n e zo_ahead = true then 60 else 61) → v = 60 + s0 → 0 ≤ s0 ∧ s0 ≤ 1 → op < 6 → zX G (y_Reader_askedPart, h + 4 + 1, sl) u 31 [(0, (2, 72)), (1, (0, op))] [(0, s0)] M Q := fun v s0 u ev es hs0 h6 => by
    rw [← ev] at qo qn
    cases ci : I with
    | none => exact absurd h6 (hI.1 ci)
    | some f =>
      rw [ci] at qo qn
      rw [zins_s] at qo qn
      have hf := hI.2 f ci
      refine B_Reader_askedPart_31 hsl (c_taken hsl hn he hr.1 (fun M1 hM1 hr1 => ⟨by unfold zI; omega, ?_⟩))
      have hr1 := hr.mv hm hc hM1 hr1
      refine hf.2.1 (h + 4) hh' _ C M1 _ hb.2 (by omega) hr1 (fun e2 D2 h2 M2 hM2 hr2 => ?_) (fun fz p h2 M2 hM2 a1 a2 a3 => ?_)
      · have g2 := hf.2.2 _ _ _ hb.2 h2
        rw [hr2.2.1.1]
        refine ⟨hc.k, c_add (v := v) hsl hm hc (by simp only [List.length_append]; omega) hr2 ?_ (by omega) (by omega) (fun M3 hM3 hr3 => qo e2 (D2 ++ [v]) ?_ M3 (((zPrs_rp hM1).trans hM2).trans hM3) (by simpa only [List.append_assoc] using hr3))⟩
        · unfold zcc
          rw [if_neg (by omega), if_pos (by omega)]
          omega
        · show zbd (f (zto B n e)) _ = _
          rw [h2]
          rfl
      · rw [a2]
        refine ⟨hc.k, c_addF hsl hc a3 (by omega) (by omega) (fun M3 hM3 e72 h03 => qn fz p ?_ M3 (((zPrs_rp hM1).trans hM2).trans hM3) (a1.fr e72) (by rw [e72]; exact a2) h03)⟩
        show zbd (f (zto B n e)) _ = _
        rw [h2]
        rfl
  refine E_Reader_askedPart hsl ⟨fun g => c_isW hsl hn he hr.1 zr_ahead (fun c1 => ⟨fun y => absurd y (by decide), fun _ => go 60 0 _ (by rw [if_pos c1]) (by decide) (by decide) g⟩) (fun c1 => ⟨fun _ => go 61 1 _ (by rw [if_neg c1]) (by decide) (by decide) g, fun y => absurd rfl y⟩), fun g => ?_⟩
  rw [hr.1.2.1]
  refine c_refuse0 hsl hr.1.1.2.2 (fun M1 hM1 h1 => ?_)
  cases ci : I with
  | none =>
    rw [ci] at qn
    exact qn _ _ rfl M1 (zPrs_rp hM1) h1 (hr.f hc hM1).1 (hr.f hc hM1).2
  | some f => exact absurd (hI.2 f ci).1 g
theorem c_partS {G : zG} {sl : Nat} (hsl : 1 ≤ sl) {md : Int} {T : zTb} {m : Nat} {t c op : Int} {B : Int → Int} {n s hh dp hp : Nat} {ok : Int → Bool} {I : Option zPfu} (hn : n ≤ 1600) (hm : m ≤ 8) (hc : zcob c) (h0 : 0 ≤ op ∧ op ≤ 6) (hI : zIc G sl md T m t c B n s y_Reader_part op hh ok false dp I) (h5 : 1 ≤ hh) (h7 : 7 ≤ hp) (h4 : hh + 4 ≤ hp) : zCf G sl md T m t c B n s y_Reader_part op hp (zpartS md T m B n I) := fun h hh' e C M Q he hs hr qo qn => by
  obtain ⟨h1, rfl⟩ : ∃ h1, h = h1 + 6 + 1 := ⟨h - 7, by omega⟩
  have hb := zto_b (B := B) he
  have hfl := zfr_le B n e
  unfold zpartS at qo qn
  refine E_Reader_part hsl ⟨fun c1 => ?_, fun c1 => ?_⟩
  · rw [hr.1.2.2.1] at c1
    rw [if_neg c1] at qo qn
    refine c_isS hsl hn he hr.1 (fun c2 => ⟨fun y => absurd y (by decide), fun _ => ?_⟩) (fun c2 => ⟨fun _ => ?_, fun y => absurd rfl y⟩)
    · rw [if_pos c2] at qo qn
      have hb2 := zsg_e he c2
      refine c_takeOpen hsl hn he hr.1 (fun c3 g M1 hM1 hr1 => ⟨fun y => absurd y (by decide), fun _ => ⟨by unfold zI; omega, ?_⟩⟩) (fun c3 g M1 hM1 hr1 => ⟨fun _ => ?_, fun y => absurd rfl y⟩) (fun c3 => absurd c2 c3)
      · cases ci : I with
        | none => exact absurd g (hI.1 ci)
        | some f =>
          rw [ci] at qo qn
          rw [zins_s] at qo qn
          have hf := hI.2 f ci
          have hS : zCf G sl md T m t c B n s y_Reader_sum (op + 1) (hh + 2) (zsumF B n f) := c_sum hsl hn hm hc (c_product hsl hn hm hc hf.2.1 hf.2.2 h5) (zprod_gd hf.2.2) (by omega)
          have gS := zsum_gd (B := B) hf.2.2
          have hr1 := hr.mv hm hc hM1 hr1
          refine hS (h1 + 6) (by omega) (zto B n e) C M1 _ hb2.2 (by omega) hr1 (fun e2 D2 h2 M2 hM2 hr2 => ⟨fun y => absurd y (by decide), fun _ => ?_⟩) (fun fz p h2 M2 hM2 a1 a2 a3 => ⟨fun _ => qn fz p (by rw [h2]; rfl) M2 ((zPrs_rp hM1).trans hM2) a1 a2 a3, fun y => absurd rfl y⟩)
          have g2 := gS _ _ _ hb2.2 h2
          refine c_takeSign hsl hn g2.2.1 hr2.1 (fun c5 M3 hM3 hr3 => ⟨fun y => absurd y (by decide), fun _ => ?_⟩) (fun c5 M3 hM3 h3 => ⟨fun _ => qn _ _ (by rw [h2]; show zbd (zsgn B n e2 41) _ = _; unfold zsgn; rw [if_neg c5]; rfl) M3 (((zPrs_rp hM1).trans hM2).trans (zPrs_rp hM3)) h3 (hr2.f hc hM3).1 (hr2.f hc hM3).2, fun y => absurd rfl y⟩)
          exact qo (zto B n e2) D2 (by rw [h2]; show zbd (zsgn B n e2 41) _ = _; unfold zsgn; rw [if_pos c5]; rfl) M3 (((zPrs_rp hM1).trans hM2).trans (zPrs_rp hM3)) (hr2.mv hm hc hM3 hr3)
      · cases ci : I with
        | none =>
          rw [ci] at qn
          exact qn _ _ rfl M1 (zPrs_rp hM1) hr1 (hr.f hc hM1).1 (hr.f hc hM1).2
        | some f => exact absurd (hI.2 f ci).1 g
    · rw [if_neg c2] at qo qn
      refine c_tryW hsl hn he hr.1 zr_min (fun c3 M1 hM1 hr1 => ⟨fun y => absurd y (by decide), fun _ => ?_⟩) (fun c3 => ⟨fun _ => ?_, fun y => absurd rfl y⟩)
      · rw [if_pos c3] at qo qn
        have hb3 := zwrd_e he c3
        exact c_rpair (h := h1 + 3) (j := 5) hsl hn hm hc h0 hI h5 (by omega) (by omega) hb3.2 (by omega) (hr.mv hm hc hM1 hr1) (fun e' D hz M2 hM2 hr2 => qo e' D hz M2 ((zPrs_rp hM1).trans hM2) hr2) (fun f p hz M2 hM2 => qn f p hz M2 ((zPrs_rp hM1).trans hM2))
      · rw [if_neg c3] at qo qn
        refine c_tryW hsl hn he hr.1 zr_max (fun c4 M1 hM1 hr1 => ⟨fun y => absurd y (by decide), fun _ => ?_⟩) (fun c4 => ⟨fun _ => ?_, fun y => absurd rfl y⟩)
        · rw [if_pos c4] at qo qn
          have hb3 := zwrd_e he c4
          exact c_rpair (h := h1 + 3) (j := 6) hsl hn hm hc h0 hI h5 (by omega) (by omega) hb3.2 (by omega) (hr.mv hm hc hM1 hr1) (fun e' D hz M2 hM2 hr2 => qo e' D hz M2 ((zPrs_rp hM1).trans hM2) hr2) (fun f p hz M2 hM2 => qn f p hz M2 ((zPrs_rp hM1).trans hM2))
        · rw [if_neg c4] at qo qn
          -- a part told: from 168 on
          have at168 : ∀ (r : Int) u, ¬ (md = 2 ∧ (zwrd B n e zo_ahead = true ∨ zwrd B n e zo_col = true)) → (ztld md T m B n e = -1 ∧ r = -1 ∨ ¬ ztld md T m B n e = -1 ∧ r = zix (decide (md = 2)) (40 + ztld md T m B n e)) → zX G (y_Reader_part, h1 + 6 + 1, sl) u 168 [(0, (2, 72))] [(0, r)] M Q := fun r u c5 hrr => by
            rw [if_neg c5] at qo qn
            rcases hrr with ⟨d1, d2⟩ | ⟨d1, d2⟩
            · rw [if_pos d1] at qn
              refine B_Reader_part_168 hsl ⟨fun y => absurd d2 y, fun _ => c_unfit0 hsl hr.1 (fun M1 hM1 a1 => qn _ _ rfl M1 (zPrs_rp hM1) a1 (hr.f hc hM1).1 (hr.f hc hM1).2)⟩
            · rw [if_neg d1] at qo
              have hl := ztld_h hm d1
              have hz := hb.2.2 (by rw [← zkd_rk (by omega)]; omega)
              have hzx : 0 ≤ zix (decide (md = 2)) (40 + ztld md T m B n e) ∧ zix (decide (md = 2)) (40 + ztld md T m B n e) < 16 := by
                have hk := hl.2.2.2
                unfold zokM at hk
                unfold zix
                by_cases c6 : md = 2
                · rw [if_pos c6, zokQ_ok] at hk
                  rw [decide_eq_true c6]
                  split
                  · omega
                  · rw [if_pos rfl]; split <;> omega
                · rw [decide_eq_false c6]
                  split
                  · omega
                  · rw [if_neg (by decide)]; split <;> omega
              refine B_Reader_part_168 hsl ⟨fun _ => ?_, fun y => absurd (by omega) y⟩
              rw [hr.2.1.1]
              refine ⟨hc.k, c_add (v := 40 + ztld md T m B n e) hsl hm hc (by omega) hr ?_ (by omega) (by omega) (fun M1 hM1 hr1 => c_taken hsl hn he hr1.1 (fun M2 hM2 hr2 => qo _ _ rfl M2 (hM1.trans (zPrs_rp hM2)) (hr1.mv hm hc hM2 hr2)))⟩
              unfold zcc
              rw [if_neg (by omega), if_neg (by omega), if_pos (by omega), d2]
          have at150 : ∀ u, ¬ (md = 2 ∧ (zwrd B n e zo_ahead = true ∨ zwrd B n e zo_col = true)) → zX G (y_Reader_part, h1 + 6 + 1, sl) u 150 [(0, (2, 72))] [] M Q := fun u c5 => by
            refine B_Reader_part_150 hsl ?_
            rw [hr.2.1.2.1]
            by_cases c6 : md = 2
            · rw [if_pos c6]
              have at168 := at168
              rw [decide_eq_true c6] at at168
              subst c6
              exact ⟨fun y => absurd y (by decide), fun _ => c_toldOfColumn (h := h1 + 1) (T := T) (m := m) hsl hn he hr.1 (fun d => at168 _ _ c5 (Or.inl ⟨d, rfl⟩)) (fun d => at168 _ _ c5 (Or.inr ⟨d, rfl⟩))⟩
            · rw [if_neg c6]
              rw [decide_eq_false c6] at at168
              exact ⟨fun _ => c_toldOfLine (h := h1 + 1) (T := T) (m := m) (md := md) hsl hn hm he hr.1 (hr.2.2.2 c6).1 c6 hr.2.1.2.2 (fun d => at168 _ _ c5 (Or.inl ⟨d, rfl⟩)) (fun d => at168 _ _ c5 (Or.inr ⟨d, rfl⟩)), fun y => absurd rfl y⟩
          have at144 : ∀ u, md = 2 → (zwrd B n e zo_ahead = true ∨ zwrd B n e zo_col = true) → zX G (y_Reader_part, h1 + 6 + 1, sl) u 144 [(0, (2, 72)), (1, (0, op))] [] M Q := fun u c5 c6 => by
            rw [if_pos ⟨c5, c6⟩] at qo qn
            exact B_Reader_part_144 hsl (c_rasked (h := h1 + 1) hsl hn hm hc h0 hI (by omega) he hs hr c6 qo qn)
          rw [hr.2.1.2.1]
          by_cases c6 : md = 2
          · rw [if_pos c6]
            refine ⟨fun y => absurd y (by decide), fun _ => c_isW hsl hn he hr.1 zr_ahead (fun c7 => ⟨fun _ => at144 _ c6 (Or.inl c7), fun y => absurd (by decide) y⟩) (fun c7 => ⟨fun y => absurd rfl y, fun _ => c_isW hsl hn he hr.1 zr_col (fun c8 => ⟨fun y => absurd y (by decide), fun _ => at144 _ c6 (Or.inr c8)⟩) (fun c8 => ⟨fun _ => at150 _ (fun y => y.2.elim c7 c8), fun y => absurd rfl y⟩)⟩)⟩
          · rw [if_neg c6]
            exact ⟨fun _ => at150 _ (fun y => c6 y.1), fun y => absurd rfl y⟩
  · have c1 : zkd B n e = 2 := by have := Classical.byContradiction c1; rw [hr.1.2.2.1] at this; exact this
    rw [if_pos c1] at qo qn
    have hz := hb.2.2 (by rw [← zkd_rk (by omega)]; omega)
    rw [hr.2.1.1]
    refine c_number hsl hn he hr.1 (fun e2 v h2 M1 hM1 hr1 => ⟨hc.k, ?_⟩) (fun f p h2 M1 hM1 a1 => ⟨hc.k, c_addF hsl hc (hr.f hc hM1).2 (by omega) (by omega) (fun M2 hM2 e72 h02 => ⟨fun _ => qn f p (by rw [h2]; rfl) M2 ((zPrs_rp hM1).trans hM2) (a1.fr e72) (by rw [e72]; exact (hr.f hc hM1).1) h02, fun y => absurd (by rw [e72, a1.1]; exact znum_no h2) y⟩)⟩)
    have g := znum_ok h2
    have g2 := g.2.1
    refine c_add (v := 1000 + v) hsl hm hc (by omega) (hr.mv hm hc hM1 hr1) ?_ (by omega) (by omega) (fun M2 hM2 hr2 => ⟨fun y => absurd hr2.1.1.2.2 y, fun _ => qo e2 [1000 + v] (by rw [h2]; rfl) M2 ((zPrs_rp hM1).trans hM2) hr2⟩)
    unfold zcc
    rw [if_pos (by omega)]
    omega
theorem c_part {G : zG} {sl : Nat} (hsl : 1 ≤ sl) {md : Int} {T : zTb} {m : Nat} {t c : Int} {B : Int → Int} {n s : Nat} (hn : n ≤ 1600) (hm : m ≤ 8) (hc : zcob c) : ∀ (k : Nat), k ≤ 6 → zCf G sl md T m t c B n s y_Reader_part (6 - (k : Int)) (4 * k + 7) (zpart md T m B n k)
  | 0, _ => c_partS (hh := 3) (dp := 0) (ok := zokM md m) hsl hn hm hc (by omega) ⟨fun _ => by omega, fun f h => by nomatch h⟩ (by omega) (by omega) (by omega)
  | k + 1, h6 => by
    refine c_partS (hh := 4 * k + 7) (dp := 3 + 3 * k) (ok := zokM md m) (I := some (zpart md T m B n k)) hsl hn hm hc (by omega) ⟨fun h => absurd h (by intro y; nomatch y), fun f h => ?_⟩ (by omega) (by omega) (by omega)
    injection h with h
    subst h
    refine ⟨by omega, ?_, zpart_gd hm k⟩
    rw [show 6 - ((k + 1 : Nat) : Int) + 1 = 6 - (k : Int) from by omega]
    exact c_part hsl hn hm hc k (by omega)
theorem c_sumK {G : zG} {sl : Nat} (hsl : 1 ≤ sl) {md : Int} {T : zTb} {m : Nat} {t c : Int} {B : Int → Int} {n s : Nat} (hn : n ≤ 1600) (hm : m ≤ 8) (hc : zcob c) (k : Nat) (hk : k ≤ 6) : zCf G sl md T m t c B n s y_Reader_sum (6 - (k : Int)) (4 * k + 7 + 1 + 1) (zsumK md T m B n k) :=
  c_sum hsl hn hm hc (c_product hsl hn hm hc (c_part hsl hn hm hc k hk) (zpart_gd (B := B) (T := T) (md := md) (n := n) hm k) (by omega)) (zprod_gd (zpart_gd hm k)) (by omega)
