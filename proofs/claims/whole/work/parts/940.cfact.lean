/-! PARSER, the class: tests. -/
theorem zcmpr_v (B : Int → Int) (n e : Nat) : zcmpr B n e = -1 ∨ zrk B n e = 3 ∧ 7 ≤ zcmpr B n e ∧ zcmpr B n e ≤ 9 := by
  unfold zcmpr
  by_cases d1 : zsg B n e 60 = true
  · rw [if_pos d1]; exact Or.inr ⟨(zsg_k d1).2.1, by omega, by omega⟩
  · rw [if_neg d1]
    by_cases d2 : zsg B n e 62 = true
    · rw [if_pos d2]; exact Or.inr ⟨(zsg_k d2).2.1, by omega, by omega⟩
    · rw [if_neg d2]
      by_cases d3 : zsg B n e 61 = true
      · rw [if_pos d3]; exact Or.inr ⟨(zsg_k d3).2.1, by omega, by omega⟩
      · rw [if_neg d3]; exact Or.inl rfl
theorem c_comparisonHere {G : zG} {h sl : Nat} (hsl : 1 ≤ sl) {B : Int → Int} {n e : Nat} {M : zM} {Q : Int → zM → Prop} (hn : n ≤ 1600) (he : e ≤ n) (hr : zRd B n e M) (q0 : zcmpr B n e = -1 → Q (-1) M) (q1 : ¬ zcmpr B n e = -1 → Q (zcmpr B n e + 3) M) : zCt G (h + 1) sl 0 0 y_Reader_comparisonHere [(2, 72)] M Q := by
  unfold zcmpr at q0 q1
  refine E_Reader_comparisonHere hsl (c_isS hsl hn he hr (fun c => ⟨fun y => absurd y (by decide), fun _ => ?_⟩) (fun c => ⟨fun _ => c_isS hsl hn he hr (fun c2 => ⟨fun y => absurd y (by decide), fun _ => ?_⟩) (fun c2 => ⟨fun _ => c_isS hsl hn he hr (fun c3 => ⟨fun y => absurd y (by decide), fun _ => ?_⟩) (fun c3 => ⟨fun _ => ?_, fun y => absurd rfl y⟩), fun y => absurd rfl y⟩), fun y => absurd rfl y⟩))
  · rw [if_pos c] at q1; exact q1 (by decide)
  · rw [if_neg c, if_pos c2] at q1; exact q1 (by decide)
  · rw [if_neg c, if_neg c2, if_pos c3] at q1; exact q1 (by decide)
  · rw [if_neg c, if_neg c2, if_neg c3] at q0; exact q0 rfl
theorem c_factS {G : zG} {sl : Nat} (hsl : 1 ≤ sl) {md : Int} {T : zTb} {m : Nat} {t c op : Int} {B : Int → Int} {n s hh hq dp dq hp : Nat} {ok : Int → Bool} {I : Option zPfu} {P : zPfu} (hn : n ≤ 1600) (hm : m ≤ 8) (hc : zcob c) (h0 : 0 ≤ op ∧ op ≤ 6) (hI : zIc G sl md T m t c B n s y_Reader_fact op hh ok true dp I) (hP : zCf G sl md T m t c B n s y_Reader_part op hq P) (gP : zGd ok n dq false P) (h5 : 5 ≤ hh) (h1q : 1 ≤ hq) (h7 : 7 ≤ hp) (h4 : hh + 3 ≤ hp) (h3 : hq + 3 ≤ hp) : zCf G sl md T m t c B n s y_Reader_fact op hp (zfactS B n P I) := fun h hh' e C M Q he hs hr qo qn => by
  obtain ⟨h1, rfl⟩ : ∃ h1, h = h1 + 6 + 1 := ⟨h - 7, by omega⟩
  have hb := zto_b (B := B) he
  have hfl := zfr_le B n e
  have hS : zCf G sl md T m t c B n s y_Reader_sum op (hq + 2) (zsumF B n P) := c_sum hsl hn hm hc (c_product hsl hn hm hc hP gP h1q) (zprod_gd gP) (by omega)
  have gS := zsum_gd (B := B) gP
  unfold zfactS at qo qn
  refine E_Reader_fact hsl (c_tryW hsl hn he hr.1 zr_not (fun c1 M1 hM1 hr1 => ⟨fun y => absurd y (by decide), fun _ => ?_⟩) (fun c1 => ⟨fun _ => ?_, fun y => absurd rfl y⟩))
  · rw [if_pos c1] at qo qn
    have hb1 := zwrd_e he c1
    refine ⟨fun g => ⟨by unfold zI; omega, ?_⟩, fun g => ?_⟩
    · cases ci : I with
      | none => exact absurd g (hI.1 ci)
      | some f =>
        rw [ci] at qo qn
        rw [zins_s] at qo qn
        have hf := hI.2 f ci
        have hr1 := hr.mv hm hc hM1 hr1
        refine hf.2.1 (h1 + 6) (by omega) _ C M1 _ hb1.2 (by omega) hr1 (fun e2 D2 h2 M2 hM2 hr2 => ?_) (fun fz p h2 M2 hM2 a1 a2 a3 => ?_)
        · have g2 := hf.2.2 _ _ _ hb1.2 h2
          rw [hr2.2.1.1]
          exact ⟨hc.k, c_add (v := 12) hsl hm hc (by simp only [List.length_append]; omega) hr2 (by unfold zcc; rw [if_neg (by omega), if_neg (by omega), if_neg (by omega), if_neg (by omega), if_pos rfl]; rfl) (by omega) (by omega) (fun M3 hM3 hr3 => qo e2 (D2 ++ [12]) (by rw [h2]; rfl) M3 (((zPrs_rp hM1).trans hM2).trans hM3) (by simpa only [List.append_assoc] using hr3))⟩
        · rw [a2]
          exact ⟨hc.k, c_addF hsl hc a3 (by omega) (by omega) (fun M3 hM3 e72 h03 => qn fz p (by rw [h2]; rfl) M3 (((zPrs_rp hM1).trans hM2).trans hM3) (a1.fr e72) (by rw [e72]; exact a2) h03)⟩
    · cases ci : I with
      | none =>
        rw [ci] at qn
        rw [hr.1.2.1]
        exact c_refuse0 hsl hr1.1.2.2 (fun M2 hM2 a1 => qn _ _ rfl M2 ((zPrs_rp hM1).trans (zPrs_rp hM2)) a1 (hr.f hc (hM1.trans hM2)).1 (hr.f hc (hM1.trans hM2)).2)
      | some f => exact absurd (hI.2 f ci).1 g
  · rw [if_neg c1] at qo qn
    refine c_isS hsl hn he hr.1 (fun c2 => ⟨fun y => absurd y (by decide), fun _ => ?_⟩) (fun c2 => ⟨fun _ => ?_, fun y => absurd rfl y⟩)
    · rw [if_pos c2] at qo qn
      have hb2 := zsg_e he c2
      refine c_takeOpen hsl hn he hr.1 (fun c3 g M1 hM1 hr1 => ⟨fun y => absurd y (by decide), fun _ => ⟨by unfold zI; omega, ?_⟩⟩) (fun c3 g M1 hM1 hr1 => ⟨fun _ => ?_, fun y => absurd rfl y⟩) (fun c3 => absurd c2 c3)
      · cases ci : I with
        | none => exact absurd g (hI.1 ci)
        | some f =>
          rw [ci] at qo qn
          rw [zins_s] at qo qn
          have hf := hI.2 f ci
          have hT : zCf G sl md T m t c B n s y_Reader_test (op + 1) (hh + 2) (ztestF B n f) := c_test hsl hn hm hc (c_both hsl hn hm hc hf.2.1 hf.2.2 h5) (zboth_gd hf.2.2) (by omega)
          have gT := ztest_gd (B := B) hf.2.2
          have hr1 := hr.mv hm hc hM1 hr1
          refine hT (h1 + 6) (by omega) (zto B n e) C M1 _ hb2.2 (by omega) hr1 (fun e2 D2 h2 M2 hM2 hr2 => ⟨fun y => absurd y (by decide), fun _ => ?_⟩) (fun fz p h2 M2 hM2 a1 a2 a3 => ⟨fun _ => qn fz p (by rw [h2]; rfl) M2 ((zPrs_rp hM1).trans hM2) a1 a2 a3, fun y => absurd rfl y⟩)
          have g2 := gT _ _ _ hb2.2 h2
          refine c_takeSign hsl hn g2.2.1 hr2.1 (fun c5 M3 hM3 hr3 => ⟨fun y => absurd y (by decide), fun _ => ?_⟩) (fun c5 M3 hM3 h3 => ⟨fun _ => qn _ _ (by rw [h2]; show zbd (zsgn B n e2 93) _ = _; unfold zsgn; rw [if_neg c5]; rfl) M3 (((zPrs_rp hM1).trans hM2).trans (zPrs_rp hM3)) h3 (hr2.f hc hM3).1 (hr2.f hc hM3).2, fun y => absurd rfl y⟩)
          exact qo (zto B n e2) D2 (by rw [h2]; show zbd (zsgn B n e2 93) _ = _; unfold zsgn; rw [if_pos c5]; rfl) M3 (((zPrs_rp hM1).trans hM2).trans (zPrs_rp hM3)) (hr2.mv hm hc hM3 hr3)
      · cases ci : I with
        | none =>
          rw [ci] at qn
          exact qn _ _ rfl M1 (zPrs_rp hM1) hr1 (hr.f hc hM1).1 (hr.f hc hM1).2
        | some f => exact absurd (hI.2 f ci).1 g
    · rw [if_neg c2] at qo qn
      refine c_tryW hsl hn he hr.1 zr_all (fun c3 M1 hM1 hr1 => ⟨fun y => absurd y (by decide), fun _ => ?_⟩) (fun c3 => ⟨fun _ => ?_, fun y => absurd rfl y⟩)
      · rw [if_pos c3] at qo qn
        have hb3 := zwrd_e he c3
        have hr1 := hr.mv hm hc hM1 hr1
        rw [hr1.2.1.1]
        exact ⟨hc.k, c_add (v := 13) hsl hm hc (by omega) hr1 (by unfold zcc; rw [if_neg (by omega), if_neg (by omega), if_neg (by omega), if_pos rfl]; rfl) (by omega) (by omega) (fun M3 hM3 hr3 => qo (zto B n e) [13] rfl M3 ((zPrs_rp hM1).trans hM3) hr3)⟩
      · rw [if_neg c3] at qo qn
        refine hS (h1 + 6) (by omega) e C M _ he hs hr (fun e2 D2 h2 M2 hM2 hr2 => ⟨fun _ => ?_, fun y => absurd (by decide) y⟩) (fun fz p h2 M2 hM2 a1 a2 a3 => ⟨fun y => absurd rfl y, fun _ => qn fz p (by rw [h2]; rfl) M2 hM2 a1 a2 a3⟩)
        have g2 := gS _ _ _ he h2
        rw [h2] at qo qn
        rw [zbd_ok] at qo qn
        have hv := zcmpr_v B n e2
        have hb2 := zto_b (B := B) g2.2.1
        have hfl2 := zfr_le B n e2
        refine c_comparisonHere hsl hn g2.2.1 hr2.1 (fun c4 => ⟨fun y => absurd rfl y, fun _ => ?_⟩) (fun c4 => ⟨fun _ => ?_, fun y => absurd (by omega) y⟩)
        · exact c_unfit0 hsl hr2.1 (fun M3 hM3 a1 => qn _ _ (by show (if zcmpr B n e2 = -1 then _ else _) = _; rw [if_pos c4]) M3 (hM2.trans (zPrs_rp hM3)) a1 (hr2.f hc hM3).1 (hr2.f hc hM3).2)
        · have hv : zrk B n e2 = 3 ∧ 7 ≤ zcmpr B n e2 ∧ zcmpr B n e2 ≤ 9 := by
            rcases hv with a | a
            · exact absurd a c4
            · exact a
          have hb3 := hb2.2.2 (by omega)
          refine c_taken hsl hn g2.2.1 hr2.1 (fun M3 hM3 hr3 => ?_)
          have hr3 := hr2.mv hm hc hM3 hr3
          refine hS (h1 + 6) (by omega) (zto B n e2) (C ++ D2) M3 _ hb2.2.1 (by simp only [List.length_append]; omega) hr3 (fun e4 D4 h4 M4 hM4 hr4 => ?_) (fun fz p h4 M4 hM4 a1 a2 a3 => ?_)
          · have g4 := gS _ _ _ hb2.2.1 h4
            rw [hr4.2.1.1]
            refine ⟨hc.k, c_add (v := zcmpr B n e2) hsl hm hc (by simp only [List.length_append]; omega) hr4 (zcc_j (by omega) (by omega)) (by omega) (by omega) (fun M5 hM5 hr5 => qo e4 (D2 ++ D4 ++ [zcmpr B n e2]) ?_ M5 (((hM2.trans (zPrs_rp hM3)).trans hM4).trans hM5) (by simpa only [List.append_assoc] using hr5))⟩
            show (if zcmpr B n e2 = -1 then _ else zbd (zsumF B n P (zto B n e2)) _) = _
            rw [if_neg c4, h4]
            rfl
          · rw [a2]
            refine ⟨hc.k, c_addF hsl hc a3 (by omega) (by omega) (fun M5 hM5 e72 h05 => qn fz p ?_ M5 (((hM2.trans (zPrs_rp hM3)).trans hM4).trans hM5) (a1.fr e72) (by rw [e72]; exact a2) h05)⟩
            show (if zcmpr B n e2 = -1 then _ else zbd (zsumF B n P (zto B n e2)) _) = _
            rw [if_neg c4, h4]
            rfl
theorem c_fact {G : zG} {sl : Nat} (hsl : 1 ≤ sl) {md : Int} {T : zTb} {m : Nat} {t c : Int} {B : Int → Int} {n s : Nat} (hn : n ≤ 1600) (hm : m ≤ 8) (hc : zcob c) : ∀ (k : Nat), k ≤ 6 → zCf G sl md T m t c B n s y_Reader_fact (6 - (k : Int)) (4 * k + 10) (zfact md T m B n k)
  | 0, _ => c_factS (hh := 5) (dp := 0) (hq := 7) (dq := 3) (ok := zokM md m) hsl hn hm hc (by omega) ⟨fun _ => by omega, fun f h => by nomatch h⟩ (c_part hsl hn hm hc 0 (by omega)) (zpart_gd hm 0) (by omega) (by omega) (by omega) (by omega) (by omega)
  | k + 1, h6 => by
    refine c_factS (hh := 4 * k + 10) (dp := 6 + 3 * k) (hq := 4 * (k + 1) + 7) (dq := 3 + 3 * (k + 1)) (ok := zokM md m) (I := some (zfact md T m B n k)) hsl hn hm hc (by omega) ⟨fun h => absurd h (by intro y; nomatch y), fun f h => ?_⟩ (c_part hsl hn hm hc (k + 1) h6) (zpart_gd hm (k + 1)) (by omega) (by omega) (by omega) (by omega) (by omega)
    injection h with h
    subst h
    refine ⟨by omega, ?_, zfact_gd hm k⟩
    rw [show 6 - ((k + 1 : Nat) : Int) + 1 = 6 - (k : Int) from by omega]
    exact c_fact hsl hn hm hc k (by omega)
theorem c_testK {G : zG} {sl : Nat} (hsl : 1 ≤ sl) {md : Int} {T : zTb} {m : Nat} {t c : Int} {B : Int → Int} {n s : Nat} (hn : n ≤ 1600) (hm : m ≤ 8) (hc : zcob c) (k : Nat) (hk : k ≤ 6) : zCf G sl md T m t c B n s y_Reader_test (6 - (k : Int)) (4 * k + 10 + 1 + 1) (ztestK md T m B n k) :=
  c_test hsl hn hm hc (c_both hsl hn hm hc (c_fact hsl hn hm hc k hk) (zfact_gd (B := B) (T := T) (md := md) (n := n) hm k) (by omega)) (zboth_gd (zfact_gd hm k)) (by omega)
