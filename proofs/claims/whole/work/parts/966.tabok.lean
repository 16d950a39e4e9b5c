/-! TABLETS, pure: what is told is well told. -/
theorem zset_s (T : zTb) (c k v : Int) : (zset T c k v).1 c k = v := by
  show (if c = c ∧ k = k then v else T.1 c k) = v
  exact if_pos ⟨rfl, rfl⟩
theorem zset_o (T : zTb) {c k a b : Int} (v : Int) (h : ¬ (a = c ∧ b = k)) : (zset T c k v).1 a b = T.1 a b := if_neg h
theorem znw_o (T : zTb) {c a b : Int} (f : Int → Int) (D : List Int) (v : Int) (h : a ≠ c) (h2 : ¬ (a = 8 ∧ b = 0)) : (zset (zadd T c f D) 8 0 v).1 a b = T.1 a b := by
  rw [zset_o _ _ h2]
  show (if a = c then f b else T.1 a b) = _
  exact if_neg h
theorem znw_s (T : zTb) (c : Int) (f : Int → Int) (D : List Int) (v : Int) : (zset (zadd T c f D) 8 0 v).1 8 0 = v := zset_s _ _ _ _
theorem znw_f (T : zTb) {c : Int} (f : Int → Int) (D : List Int) (v b : Int) (h : c ≠ 8) : (zset (zadd T c f D) 8 0 v).1 c b = f b := by
  rw [zset_o _ _ (fun y => h y.1)]
  show (if c = c then f b else T.1 c b) = _
  exact if_pos rfl
theorem znw_d (T : zTb) (c : Int) (f : Int → Int) (D : List Int) (v : Int) : (zset (zadd T c f D) 8 0 v).2 c = D := by
  show (if c = c then D else T.2 c) = D
  exact if_pos rfl
theorem znw_e (T : zTb) {c a : Int} (f : Int → Int) (D : List Int) (v : Int) (h : a ≠ c) : (zset (zadd T c f D) 8 0 v).2 a = T.2 a := by
  show (if a = c then D else T.2 a) = _
  exact if_neg h
theorem zmk_d (T : zTb) (D : List Int) : (zset (T.1, fun a => if a = 8 then D else T.2 a) 8 3 1).2 8 = D := by
  show (if (8 : Int) = 8 then D else T.2 8) = D
  exact if_pos rfl
theorem zmk_e (T : zTb) (D : List Int) {a : Int} (h : a ≠ 8) : (zset (T.1, fun a => if a = 8 then D else T.2 a) 8 3 1).2 a = T.2 a := by
  show (if a = 8 then D else T.2 a) = _
  exact if_neg h
theorem ztq_mono {ok ok' : Int → Bool} (hk : ∀ v, ok v = true → ok' v = true) {v : Int} {ts us : List Bool} (h : ztq ok v ts = some us) : ztq ok' v ts = some us := by
  unfold ztq at h ⊢
  by_cases a : 1000 ≤ v
  · rw [if_pos a] at h ⊢; exact h
  · rw [if_neg a] at h ⊢
    by_cases b : 60 ≤ v
    · rw [if_pos b] at h ⊢
      by_cases c : ok v = true ∧ v ≤ 61 ∧ ts.head? = some false
      · rw [if_pos c] at h
        rw [if_pos ⟨hk v c.1, c.2⟩]; exact h
      · rw [if_neg c] at h; nomatch h
    · rw [if_neg b] at h ⊢
      by_cases d : 40 ≤ v
      · rw [if_pos d] at h ⊢
        by_cases c : ok v = true ∧ ts.length < 64
        · rw [if_pos c] at h
          rw [if_pos ⟨hk v c.1, c.2⟩]; exact h
        · rw [if_neg c] at h; nomatch h
      · rw [if_neg d] at h ⊢; exact h
theorem zty_mono {ok ok' : Int → Bool} (hk : ∀ v, ok v = true → ok' v = true) : ∀ {cs : List Int} {ts us : List Bool}, zty ok cs ts = some us → zty ok' cs ts = some us
  | [], _, _, h => h
  | v :: r, ts, us, h => by
    have h : (ztq ok v ts).bind (zty ok r) = some us := h
    cases c : ztq ok v ts with
    | none => rw [c] at h; nomatch h
    | some t =>
      rw [c] at h
      have h : zty ok r t = some us := h
      show (ztq ok' v ts).bind (zty ok' r) = some us
      rw [ztq_mono hk c]
      exact zty_mono hk h
theorem zokT_mono {a b : Int} (h : a ≤ b) (p : Bool) : ∀ v, zokT a p v = true → zokT b p v = true := fun v hv => by
  unfold zokT at hv ⊢
  simp only [Bool.or_eq_true, Bool.and_eq_true, decide_eq_true_eq] at hv ⊢
  rcases hv with x | x
  · exact Or.inl x
  · exact Or.inr ⟨x.1, by omega⟩
theorem zTok1_eq {T T' : zTb} {c : Int} (h1 : ∀ k, T'.1 c k = T.1 c k) (h2 : T'.2 c = T.2 c) (h : zTok1 T c) : zTok1 T' c := by
  unfold zTok1 at h ⊢
  simp only [h1, h2]
  exact h
theorem zsrt_v (B : Int → Int) (n e : Nat) : zsrt B n e = -1 ∨ (0 ≤ zsrt B n e ∧ zsrt B n e ≤ 3) ∧ zkd B n e = 1 := by
  unfold zsrt
  by_cases c0 : zwrd B n e zo_zig = true
  · rw [if_pos c0]; exact Or.inr ⟨by decide, (zwrd_k c0).1⟩
  · rw [if_neg c0]
    by_cases c1 : zwrd B n e zo_arc = true
    · rw [if_pos c1]; exact Or.inr ⟨by decide, (zwrd_k c1).1⟩
    · rw [if_neg c1]
      by_cases c2 : zwrd B n e zo_ring = true
      · rw [if_pos c2]; exact Or.inr ⟨by decide, (zwrd_k c2).1⟩
      · rw [if_neg c2]
        by_cases c3 : zwrd B n e zo_sum = true
        · rw [if_pos c3]; exact Or.inr ⟨by decide, (zwrd_k c3).1⟩
        · rw [if_neg c3]; exact Or.inl rfl
theorem znam_ok {T : zTb} {m : Nat} {B : Int → Int} {n e e' : Nat} (he : e ≤ n) (h : znam T m B n e = .inr e') : e + 1 ≤ e' ∧ e' ≤ n ∧ e' = zto B n e ∧ zkd B n e = 1 ∧ zto B n e - zfr B n e ≤ 6 ∧ zcnm T m B n e = -1 := by
  unfold znam at h
  by_cases c : zkd B n e = 1 ∧ ¬ zown B n e = true
  · rw [if_pos c] at h
    by_cases c6 : 6 < zto B n e - zfr B n e
    · rw [if_pos c6] at h; nomatch h
    · rw [if_neg c6] at h
      by_cases cc : zcnm T m B n e = -1
      · rw [if_pos cc] at h
        injection h with h
        have hb := zto_b (B := B) he
        have hz := hb.2.2 (by rw [← zkd_rk (by omega)]; omega)
        have hfl := zfr_le B n e
        exact ⟨by omega, by omega, h.symm, c.1, by omega, cc⟩
      · rw [if_neg cc] at h; nomatch h
  · rw [if_neg c] at h; nomatch h
/-- a statement keeps the tablet well told; codes no more than bytes -/
theorem zstat_ok {B : Int → Int} {n : Nat} {T T' : zTb} {s s' e e' : Nat} (hT : zTok T) (he : e ≤ n) (hs : s ≤ e) (h : zstat B n T s e = .inr (T', s', e')) : zTok T' ∧ T'.1 8 2 = T.1 8 2 ∧ s' ≤ e' ∧ s ≤ s' ∧ e' ≤ n := by
  obtain ⟨h0, h8, sl0, sl1, st0, st1, mk, cl⟩ := hT
  unfold zstat at h
  by_cases c1 : zwrd B n e zo_slip = true
  · rw [if_pos c1] at h
    have hb := zwrd_e he c1
    obtain ⟨⟨e1, v⟩, h1, h⟩ := zbd_inv h
    injection h with h; injection h with h2 h3; injection h3 with h3 h4
    subst h2; subst h3; subst h4
    have g := znum_ok h1
    have hb2 := zto_b (B := B) hb.2
    have hfl := zfr_le B n (zto B n e)
    have g2 := g.2.1
    have ne : ∀ a b, ¬ (a = 8 ∧ b = 1) → (zset T 8 1 v).1 a b = T.1 a b := fun a b p => if_neg p
    have n1 : (zset T 8 1 v).1 8 1 = v := zset_s _ _ _ _
    refine ⟨⟨by rw [ne _ _ (by decide)]; exact h0, by rw [ne _ _ (by decide)]; exact h8, by rw [n1]; exact g.2.2.1, by rw [n1]; exact g.2.2.2.1, by rw [ne _ _ (by decide)]; exact st0, by rw [ne _ _ (by decide)]; exact st1, by rw [ne _ _ (by decide), ne _ _ (by decide)]; exact mk, fun c a b => ?_⟩, ne _ _ (by decide), by omega, Nat.le_refl _, by omega⟩
    rw [ne _ _ (by decide)] at b
    exact zTok1_eq (fun k => ne _ _ (by omega)) rfl (cl c a b)
  · rw [if_neg c1] at h
    by_cases c2 : zwrd B n e zo_marks = true
    · rw [if_pos c2] at h
      have hb := zwrd_e he c2
      by_cases c3 : T.1 8 3 = 0
      · rw [if_pos c3] at h
        obtain ⟨⟨e1, D⟩, h1, h⟩ := zbd_inv h
        injection h with h; injection h with h2 h3; injection h3 with h3 h4
        subst h2; subst h3; subst h4
        have g := ztestK_gd (by omega) hb.2 h1
        have ek : zokM 1 (T.1 8 0).toNat = zokT (T.1 8 0) false := by unfold zokM; rw [if_neg (by decide), show (((T.1 8 0).toNat : Nat) : Int) = T.1 8 0 from by omega]; rfl
        rw [ek] at g
        have ne : ∀ a b, ¬ (a = 8 ∧ b = 3) → (zset (T.1, fun a => if a = 8 then D else T.2 a) 8 3 1).1 a b = T.1 a b := fun a b p => if_neg p
        have n1 : (zset (T.1, fun a => if a = 8 then D else T.2 a) 8 3 1).1 8 3 = 1 := zset_s _ _ _ _
        refine ⟨⟨by rw [ne _ _ (by decide)]; exact h0, by rw [ne _ _ (by decide)]; exact h8, by rw [ne _ _ (by decide)]; exact sl0, by rw [ne _ _ (by decide)]; exact sl1, by rw [ne _ _ (by decide)]; exact st0, by rw [ne _ _ (by decide)]; exact st1, Or.inr ⟨n1, by rw [ne _ _ (by decide)]; exact g.2.2⟩, fun c a b => ?_⟩, ne _ _ (by decide), by show s + D.length ≤ e1; have := g.1; omega, Nat.le_add_right _ _, g.2.1⟩
        rw [ne _ _ (by decide)] at b
        exact zTok1_eq (fun k => ne _ _ (by omega)) (if_neg (by omega)) (cl c a b)
      · rw [if_neg c3] at h; nomatch h
    · rw [if_neg c2] at h
      by_cases c3 : zsrt B n e = -1
      · rw [if_pos c3] at h; nomatch h
      · rw [if_neg c3] at h
        by_cases c4 : 8 ≤ T.1 8 0
        · rw [if_pos c4] at h; nomatch h
        · rw [if_neg c4] at h
          have hv : (0 ≤ zsrt B n e ∧ zsrt B n e ≤ 3) ∧ zkd B n e = 1 := by
            rcases zsrt_v B n e with a | a
            · exact absurd a c3
            · exact a
          have hb := zto_b (B := B) he
          have hz := hb.2.2 (by rw [← zkd_rk (by omega)]; omega)
          have hfl := zfr_le B n e
          obtain ⟨e1, h1, h⟩ := zbd_inv h
          obtain ⟨⟨e2, f, D⟩, h5, h⟩ := zbd_inv h
          injection h with h; injection h with h2 h3; injection h3 with h3 h4
          subst h2; subst h3; subst h4
          have gn := znam_ok hb.2.1 h1
          have g := zcdf_ok (by omega) hv.1 gn.2.1 h5
          have em : (((T.1 8 0).toNat : Nat) : Int) = T.1 8 0 := by omega
          rw [em] at g
          have ne : ∀ a b, a ≠ T.1 8 0 → ¬ (a = 8 ∧ b = 0) → (zset (zadd T (T.1 8 0) f D) 8 0 (T.1 8 0 + 1)).1 a b = T.1 a b := fun a b p1 p2 => (if_neg p2).trans (if_neg p1)
          have n1 : (zset (zadd T (T.1 8 0) f D) 8 0 (T.1 8 0 + 1)).1 8 0 = T.1 8 0 + 1 := zset_s _ _ _ _
          have n2 : ∀ a, a ≠ T.1 8 0 → (zset (zadd T (T.1 8 0) f D) 8 0 (T.1 8 0 + 1)).2 a = T.2 a := fun a p => if_neg p
          refine ⟨⟨by rw [n1]; omega, by rw [n1]; omega, by rw [ne _ _ (by omega) (by decide)]; exact sl0, by rw [ne _ _ (by omega) (by decide)]; exact sl1, by rw [ne _ _ (by omega) (by decide)]; exact st0, by rw [ne _ _ (by omega) (by decide)]; exact st1, ?_, fun c a b => ?_⟩, ne _ _ (by omega) (by decide), by have := g.1.1; show s + D.length ≤ e2; omega, Nat.le_add_right _ _, g.1.2⟩
          · rw [ne _ _ (by omega) (by decide), n1, n2 8 (by omega)]
            rcases mk with a | a
            · exact Or.inl a
            · exact Or.inr ⟨a.1, zty_mono (zokT_mono (by omega) false) a.2⟩
          · rw [n1] at b
            by_cases cc : c = T.1 8 0
            · subst cc
              exact zTok1_eq (fun k => if_neg (by omega)) rfl g.2.2
            · exact zTok1_eq (fun k => ne _ _ cc (by omega)) (n2 _ cc) (cl c a (by omega))
theorem ztabd_ok {B : Int → Int} {n : Nat} : ∀ (d : Nat) (T : zTb) (s e : Nat) (T' : zTb), zTok T → e ≤ n → s ≤ e → ztabd B n d T s e = .inr T' → zTok T'
  | 0, T, s, e, T', hT, he, hs, h => by
    injection h with h
    subst h
    exact hT
  | d + 1, T, s, e, T', hT, he, hs, h => by
    have h : (if zkd B n e = 0 then (.inr T : zRs zTb) else if T.1 8 2 = 60 then .inl (5, (zfr B n e : Nat)) else zbd (zstat B n T s e) (fun r => zbd (zsgn B n r.2.2 59) (fun e2 => ztabd B n d (zset r.1 8 2 (r.1.1 8 2 + 1)) r.2.1 e2))) = .inr T' := h
    by_cases c : zkd B n e = 0
    · rw [if_pos c] at h; injection h with h; subst h; exact hT
    · rw [if_neg c] at h
      by_cases c2 : T.1 8 2 = 60
      · rw [if_pos c2] at h; nomatch h
      · rw [if_neg c2] at h
        obtain ⟨⟨T1, s1, e1⟩, h1, h⟩ := zbd_inv h
        obtain ⟨e2, h2, h⟩ := zbd_inv h
        have g := zstat_ok hT he hs h1
        have g2 := zsgn_h g.2.2.2.2 h2
        refine ztabd_ok d _ s1 e2 T' ?_ g2.2.1 (by have := g2.1; have := g.2.2.1; omega) h
        obtain ⟨h0, h8, sl0, sl1, st0, st1, mk, cl⟩ := g.1
        have ne : ∀ a b, ¬ (a = 8 ∧ b = 2) → (zset T1 8 2 (T1.1 8 2 + 1)).1 a b = T1.1 a b := fun a b p => if_neg p
        have n1 : (zset T1 8 2 (T1.1 8 2 + 1)).1 8 2 = T1.1 8 2 + 1 := zset_s _ _ _ _
        have st := hT.2.2.2.2.2.1
        refine ⟨by rw [ne _ _ (by decide)]; exact h0, by rw [ne _ _ (by decide)]; exact h8, by rw [ne _ _ (by decide)]; exact sl0, by rw [ne _ _ (by decide)]; exact sl1, by rw [n1]; omega, by rw [n1, g.2.1]; omega, by rw [ne _ _ (by decide), ne _ _ (by decide)]; exact mk, fun c a b => ?_⟩
        rw [ne _ _ (by decide)] at b
        exact zTok1_eq (fun k => ne _ _ (by omega)) rfl (cl c a b)
theorem ztab_ok {B : Int → Int} {n : Nat} {T : zTb} (h : ztab B n = .inr T) : zTok T :=
  ztabd_ok 61 _ 0 0 T ⟨Int.le_refl _, by decide, Int.le_refl _, by decide, Int.le_refl _, by decide, Or.inl rfl, fun c a b => by have b : c < 0 := b; omega⟩ (Nat.zero_le _) (Nat.le_refl _) h
