/-! TABLETS, pure: T under way (T.1 8 0 columns told, 1 slip, 2 statements, 3 marks), s codes kept, e where. -/
def zset (T : zTb) (c k v : Int) : zTb := (fun a b => if a = c ∧ b = k then v else T.1 a b, T.2)
def zadd (T : zTb) (c : Int) (f : Int → Int) (cs : List Int) : zTb := (fun a b => if a = c then f b else T.1 a b, fun a => if a = c then cs else T.2 a)
/-- a column's fields: sort, least, greatest, start, up, step, slow, quick, its letters -/
def zfld (so lo hi st up sp sw qu : Int) (lt : Int → Int) : Int → Int := fun k => if k = 0 then so else if k = 1 then lo else if k = 2 then hi else if k = 3 then st else if k = 4 then up else if k = 5 then sp else if k = 6 then sw else if k = 7 then qu else lt k
/-- behind the name: where it goes on, the fields, the sum's codes -/
def zcdf (T : zTb) (m : Nat) (B : Int → Int) (n : Nat) (so : Int) (lt : Int → Int) (e : Nat) : zRs (Nat × (Int → Int) × List Int) :=
  if so = 0 then zbd (zgY5 B n e) (fun y => .inr (y.1, zfld 0 (zvl (zgY1 B n e)) (zvl (zgY2 B n e)) (zvl (zgY4 B n e)) y.2 (zvl (zgY3 B n e)) 0 0 lt, []))
  else if so = 1 then zbd (zaY5 B n e) (fun y => .inr (y.1, zfld 1 0 (zvl (zaY1 B n e) - 1) (zvl (zaY2 B n e)) 0 (zvl (zaY4 B n e)) y.2 (zvl (zaY3 B n e)) lt, []))
  else if so = 2 then zbd (zsmc T m B n (zrY3 B n e)) (fun r => .inr (r.1, zfld 2 0 (zvl (zrY1 B n e) - 1) (zvl (zrY2 B n e)) 0 0 0 0 lt, r.2))
  else zbd (zsmc T m B n (ztkw B n (.inr e) zo_is)) (fun r => .inr (r.1, zfld 3 0 0 0 0 0 0 0 lt, r.2))
/-- the letters of the word at e, from 10 on -/
def zlts (B : Int → Int) (n e : Nat) : Int → Int := fun k => if 10 ≤ k ∧ k < 16 then zwl B n e (k - 10).toNat else 0
def zsrt (B : Int → Int) (n e : Nat) : Int := if zwrd B n e zo_zig = true then 0 else if zwrd B n e zo_arc = true then 1 else if zwrd B n e zo_ring = true then 2 else if zwrd B n e zo_sum = true then 3 else -1
def zstat (B : Int → Int) (n : Nat) (T : zTb) (s e : Nat) : zRs (zTb × Nat × Nat) :=
  if zwrd B n e zo_slip = true then zbd (znum B n (zto B n e) 0 100) (fun r => .inr (zset T 8 1 r.2, s, r.1))
  else if zwrd B n e zo_marks = true then
    (if T.1 8 3 = 0 then zbd (ztestK 1 T (T.1 8 0).toNat B n 6 (zto B n e)) (fun r => .inr (zset (T.1, fun a => if a = 8 then r.2 else T.2 a) 8 3 1, s + r.2.length, r.1)) else .inl (5, (zfr B n e : Nat)))
  else if zsrt B n e = -1 then .inl (1, (zfr B n e : Nat))
  else if 8 ≤ T.1 8 0 then .inl (5, (zfr B n e : Nat))
  else zbd (znam T (T.1 8 0).toNat B n (zto B n e)) (fun e1 => zbd (zcdf T (T.1 8 0).toNat B n (zsrt B n e) (zlts B n (zto B n e)) e1) (fun r => .inr (zset (zadd T (T.1 8 0) r.2.1 r.2.2) 8 0 (T.1 8 0 + 1), s + r.2.2.length, r.1)))
def ztabd (B : Int → Int) (n : Nat) : Nat → zTb → Nat → Nat → zRs zTb
  | 0, T, _, _ => .inr T
  | d + 1, T, s, e => if zkd B n e = 0 then .inr T else if T.1 8 2 = 60 then .inl (5, (zfr B n e : Nat)) else zbd (zstat B n T s e) (fun r => zbd (zsgn B n r.2.2 59) (fun e2 => ztabd B n d (zset r.1 8 2 (r.1.1 8 2 + 1)) r.2.1 e2))
/-- the tablet that a text tells, or its fault -/
def ztab (B : Int → Int) (n : Nat) : zRs zTb := ztabd B n 61 (fun _ _ => 0, fun _ => []) 0 0
/-- a column well told -/
theorem zcdf_ok {T : zTb} {m : Nat} {B : Int → Int} {n : Nat} {so : Int} {lt : Int → Int} {e e' : Nat} {f : Int → Int} {cs : List Int} (hm : m ≤ 8) (hso : 0 ≤ so ∧ so ≤ 3) (he : e ≤ n) (h : zcdf T m B n so lt e = .inr (e', f, cs)) : (e + cs.length ≤ e' ∧ e' ≤ n) ∧ (∀ k, 10 ≤ k → f k = lt k) ∧ zTok1 (zadd T (m : Int) f cs) m := by
  unfold zcdf at h
  have hT : ∀ k, (zadd T (m : Int) f cs).1 m k = f k := fun k => by unfold zadd; exact if_pos rfl
  have hC : (zadd T (m : Int) f cs).2 m = cs := by unfold zadd; exact if_pos rfl
  have ek : zokM 0 m = zokT m true := by unfold zokM; rw [if_neg (by decide), decide_eq_true rfl]
  unfold zTok1
  simp only [hT, hC]
  by_cases c0 : so = 0
  · rw [if_pos c0] at h
    obtain ⟨⟨e5, v⟩, h5, h⟩ := zbd_inv h
    injection h with h; injection h with h1 h2; injection h2 with h2 h3
    subst h1; subst h2; subst h3
    have h5z := h5
    unfold zgY5 zupd at h5
    obtain ⟨e4, c4, h5⟩ := zbd_inv h5
    obtain ⟨e3, c3⟩ := zbhs_up c4
    obtain ⟨e2, c2⟩ := zbhs_up c3
    obtain ⟨e1, c1⟩ := zbhs_up c2
    obtain ⟨v1, y1⟩ := zwe_inv c1
    obtain ⟨v2, y2⟩ := zwe_inv c2
    obtain ⟨v3, y3⟩ := zwe_inv c3
    obtain ⟨v4, y4⟩ := zwe_inv c4
    have w1 : zbeh B n e zo_from 0 999 = .inr (e1, v1) := y1
    have w2 : zbeh B n e1 zo_to (v1 + 1) 999 = .inr (e2, v2) := by have := y2; unfold zgY2 at this; rw [c1, y1] at this; exact this
    have w3 : zbeh B n e2 zo_by 1 (v2 - v1) = .inr (e3, v3) := by have := y3; unfold zgY3 at this; rw [c2, y1, y2] at this; exact this
    have w4 : zbeh B n e3 zo_at v1 v2 = .inr (e4, v4) := by have := y4; unfold zgY4 at this; rw [c3, y1, y2] at this; exact this
    have o1 := zbeh_ok he w1
    have o2 := zbeh_ok o1.2.1 w2
    have o3 := zbeh_ok o2.2.1 w3
    have o4 := zbeh_ok o3.2.1 w4
    have h5 : (if zwrd B n e4 zo_up = true then (.inr (zto B n e4, 1) : zRs (Nat × Int)) else if zwrd B n e4 zo_down = true then .inr (zto B n e4, 0) else .inl (1, (zfr B n e4 : Nat))) = .inr (e5, v) := h5
    have o5 : e4 ≤ e5 ∧ e5 ≤ n ∧ (v = 0 ∨ v = 1) := by
      by_cases cu : zwrd B n e4 zo_up = true
      · rw [if_pos cu] at h5
        injection h5 with h5; injection h5 with h6 h7
        have := zwrd_e o4.2.1 cu
        omega
      · rw [if_neg cu] at h5
        by_cases cd : zwrd B n e4 zo_down = true
        · rw [if_pos cd] at h5
          injection h5 with h5; injection h5 with h6 h7
          have := zwrd_e o4.2.1 cd
          omega
        · rw [if_neg cd] at h5; nomatch h5
    rw [y1, y2, y3, y4]
    refine ⟨⟨by simp only [List.length_nil]; omega, o5.2.1⟩, fun k hk => by unfold zfld; rw [if_neg (by omega), if_neg (by omega), if_neg (by omega), if_neg (by omega), if_neg (by omega), if_neg (by omega), if_neg (by omega), if_neg (by omega)], Or.inl ?_⟩
    show (0 : Int) = 0 ∧ 0 ≤ v1 ∧ v1 < v2 ∧ v2 ≤ 999 ∧ 1 ≤ v3 ∧ v3 ≤ v2 - v1 ∧ v1 ≤ v4 ∧ v4 ≤ v2 ∧ (v = 0 ∨ v = 1)
    omega
  · rw [if_neg c0] at h
    have fl : ∀ (a b c d g i j : Int) (k : Int), 10 ≤ k → zfld so a b c d g i j lt k = lt k := fun a b c d g i j k hk => by unfold zfld; rw [if_neg (by omega), if_neg (by omega), if_neg (by omega), if_neg (by omega), if_neg (by omega), if_neg (by omega), if_neg (by omega), if_neg (by omega)]
    by_cases c1 : so = 1
    · rw [if_pos c1] at h
      rw [c1] at fl
      obtain ⟨⟨e5, v⟩, h5, h⟩ := zbd_inv h
      injection h with h; injection h with h1 h2; injection h2 with h2 h3
      subst h1; subst h2; subst h3
      have c5 : zwe (zaY5 B n e) = .inr e5 := by rw [h5]; rfl
      obtain ⟨e4, c4⟩ := zbhs_up c5
      obtain ⟨e3, c3⟩ := zbhs_up c4
      obtain ⟨e2, c2⟩ := zbhs_up c3
      obtain ⟨e1, c1⟩ := zbhs_up c2
      obtain ⟨v1, y1⟩ := zwe_inv c1
      obtain ⟨v2, y2⟩ := zwe_inv c2
      obtain ⟨v3, y3⟩ := zwe_inv c3
      obtain ⟨v4, y4⟩ := zwe_inv c4
      have w1 : zbeh B n e zo_of 4 999 = .inr (e1, v1) := y1
      have w2 : zbeh B n e1 zo_at 0 (v1 - 1) = .inr (e2, v2) := by have := y2; unfold zaY2 at this; rw [c1, y1] at this; exact this
      have w3 : zbeh B n e2 zo_to 2 (v1 - 2) = .inr (e3, v3) := by have := y3; unfold zaY3 at this; rw [c2, y1] at this; exact this
      have w4 : zbeh B n e3 zo_fast 1 v3 = .inr (e4, v4) := by have := y4; unfold zaY4 at this; rw [c3, y3] at this; exact this
      have w5 : zbeh B n e4 zo_slow 1 (v1 - v3) = .inr (e5, v) := by have := h5; unfold zaY5 at this; rw [c4, y1, y3] at this; exact this
      have o1 := zbeh_ok he w1
      have o2 := zbeh_ok o1.2.1 w2
      have o3 := zbeh_ok o2.2.1 w3
      have o4 := zbeh_ok o3.2.1 w4
      have o5 := zbeh_ok o4.2.1 w5
      rw [y1, y2, y3, y4]
      refine ⟨⟨by simp only [List.length_nil]; omega, o5.2.1⟩, fun k hk => fl _ _ _ _ _ _ _ k hk, Or.inr (Or.inl ?_)⟩
      show (1 : Int) = 1 ∧ (0 : Int) = 0 ∧ 3 ≤ v1 - 1 ∧ v1 - 1 ≤ 998 ∧ 2 ≤ v3 ∧ v3 ≤ v1 - 1 - 1 ∧ 1 ≤ v4 ∧ v4 ≤ v3 ∧ 1 ≤ v ∧ v ≤ v1 - 1 + 1 - v3 ∧ 0 ≤ v2 ∧ v2 ≤ v1 - 1 ∧ (0 : Int) = 0
      omega
    · rw [if_neg c1] at h
      by_cases c2 : so = 2
      · rw [if_pos c2] at h
        rw [c2] at fl
        obtain ⟨⟨e5, D⟩, h5, h⟩ := zbd_inv h
        injection h with h; injection h with h1 h2; injection h2 with h2 h3
        subst h1; subst h2; subst h3
        unfold zsmc at h5
        obtain ⟨e4, c4, h5⟩ := zbd_inv h5
        obtain ⟨e3, c3, w3, ee⟩ := ztkw_up c4
        obtain ⟨e1, c1⟩ := zbhs_up c3
        obtain ⟨v1, y1⟩ := zwe_inv c1
        obtain ⟨v2, y2⟩ := zwe_inv c3
        have w1 : zbeh B n e zo_of 2 999 = .inr (e1, v1) := y1
        have w2 : zbeh B n e1 zo_at 0 (v1 - 1) = .inr (e3, v2) := by have := y2; unfold zrY2 at this; rw [c1, y1] at this; exact this
        have o1 := zbeh_ok he w1
        have o2 := zbeh_ok o1.2.1 w2
        have o3 := zwrd_e o2.2.1 w3
        have g := zsumK_gd hm (by omega) h5
        rw [ek] at g
        rw [y1, y2]
        refine ⟨⟨by have := g.1; show e + D.length ≤ e5; omega, g.2.1⟩, fun k hk => fl _ _ _ _ _ _ _ k hk, Or.inr (Or.inr (Or.inl ⟨rfl, rfl, ?_, ?_, ?_, ?_, rfl, g.2.2⟩))⟩
        · show 1 ≤ v1 - 1; omega
        · show v1 - 1 ≤ 998; omega
        · show 0 ≤ v2; omega
        · show v2 ≤ v1 - 1; omega
      · rw [if_neg c2] at h
        have c3 : so = 3 := by omega
        rw [c3] at fl
        obtain ⟨⟨e5, D⟩, h5, h⟩ := zbd_inv h
        injection h with h; injection h with h1 h2; injection h2 with h2 h3
        subst h1; subst h2; subst h3
        unfold zsmc at h5
        obtain ⟨e4, c4, h5⟩ := zbd_inv h5
        obtain ⟨e3, c3, w3, ee⟩ := ztkw_up c4
        injection c3 with c3
        subst c3
        have o3 := zwrd_e he w3
        have g := zsumK_gd hm (by omega) h5
        rw [ek] at g
        exact ⟨⟨by have := g.1; show e + D.length ≤ e5; omega, g.2.1⟩, fun k hk => fl _ _ _ _ _ _ _ k hk, Or.inr (Or.inr (Or.inr ⟨rfl, rfl, rfl, rfl, g.2.2⟩))⟩
