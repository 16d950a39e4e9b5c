/-! PARSER: the column a word names. -/
def zwl (B : Int → Int) (n e k : Nat) : Int := if zfr B n e + k < zto B n e then B ((zfr B n e + k : Nat) : Int) - 97 + 1 else 0
def zmt (T : zTb) (B : Int → Int) (n e : Nat) (c : Int) : Bool := decide (zto B n e - zfr B n e ≤ 6 ∧ ∀ k : Nat, k < 6 → T.1 c (10 + (k : Int)) = zwl B n e k)
def zcnd (T : zTb) (B : Int → Int) (n e : Nat) : Nat → Int → Int
  | 0, _ => -1
  | d + 1, i => if zmt T B n e i = true then i else zcnd T B n e d (i + 1)
/-- the first of m columns that the word at e names; -1 -/
def zcnm (T : zTb) (m : Nat) (B : Int → Int) (n e : Nat) : Int := if zkd B n e = 1 then zcnd T B n e m 0 else -1
def zNc (T : zTb) (m : Nat) (t : Int) (M : zM) : Prop := (t = 79 ∨ t = 102) ∧ M 72 5 = t ∧ M t 2 = m ∧ ∀ c k : Int, 0 ≤ c → c < m → 0 ≤ k → k < 6 → M (t + 7 + 2 * c + 1) k = T.1 c (10 + k)
def zNn (T : zTb) (m : Nat) (M : zM) : Prop := M 158 0 = m ∧ ∀ c, 0 ≤ c → c < (m : Int) → zNm1 T c (M 159 c)
theorem zkd_ltr {B : Int → Int} {n e : Nat} (hk : zkd B n e = 1) : zto B n e = zru B n 1 (zfr B n e) ∧ zfr B n e < zto B n e ∧ ∀ j : Nat, j < zto B n e - zfr B n e → 97 ≤ B ((zfr B n e + j : Nat) : Int) ∧ B ((zfr B n e + j : Nat) : Int) ≤ 122 := by
  have c : zrk B n e = 1 := by rw [← zkd_rk (by omega)]; exact hk
  have hl := zrk_lt (B := B) (n := n) (e := e) (by omega)
  have h1 : zkdo (B (zfr B n e : Nat)) = 1 := by unfold zrk at c; rw [if_pos hl] at c; exact c
  have et : zto B n e = zru B n 1 (zfr B n e) := by
    unfold zto
    rw [if_neg (by omega), if_neg (by omega), c, zru_1 (e := zfr B n e) ⟨hl, h1⟩]
  have et2 : zto B n e = zru B n 1 (zfr B n e + 1) := by
    unfold zto
    rw [if_neg (by omega), if_neg (by omega), c]
  have hle := zru_le B n 1 (zfr B n e + 1)
  refine ⟨et, by omega, fun j hj => ?_⟩
  have := zru_k (B := B) (n := n) (e := zfr B n e) (k := 1) (a := zfr B n e + j) (by omega) (by omega)
  rw [zkdo_1] at this
  exact this
theorem zKnm {t c : Int} (ht : t = 79 ∨ t = 102) (h0 : 0 ≤ c) (h8 : c < 8) : (zK t = (8, 0)) ∧ (zK (t + 7 + 2 * c) = (1, 0)) ∧ (zK (t + 7 + 2 * c + 1)).1 = 100 ∧ (zK (t + 7 + 2 * c + 1)).2 = 6 := by
  rcases ht with rfl | rfl <;> rcases (by omega : c = 0 ∨ c = 1 ∨ c = 2 ∨ c = 3 ∨ c = 4 ∨ c = 5 ∨ c = 6 ∨ c = 7) with rfl | rfl | rfl | rfl | rfl | rfl | rfl | rfl <;> decide
theorem zcnd_v (T : zTb) (B : Int → Int) (n e : Nat) : ∀ (d : Nat) (i : Int), zcnd T B n e d i = -1 ∨ i ≤ zcnd T B n e d i ∧ zcnd T B n e d i < i + d ∧ zmt T B n e (zcnd T B n e d i) = true
  | 0, _ => Or.inl rfl
  | d + 1, i => by
    show (if _ then _ else _) = _ ∨ i ≤ (if _ then _ else _) ∧ (if _ then _ else _) < _ ∧ zmt T B n e (if _ then _ else _) = true
    by_cases c : zmt T B n e i = true
    · rw [if_pos c]; exact Or.inr ⟨by omega, by omega, c⟩
    · rw [if_neg c]
      rcases zcnd_v T B n e d (i + 1) with h | h
      · exact Or.inl h
      · exact Or.inr ⟨by omega, by omega, h.2.2⟩
theorem zcnm_v (T : zTb) (m : Nat) (B : Int → Int) (n e : Nat) : zcnm T m B n e = -1 ∨ 0 ≤ zcnm T m B n e ∧ zcnm T m B n e < m ∧ zkd B n e = 1 := by
  unfold zcnm
  by_cases c : zkd B n e = 1
  · rw [if_pos c]
    rcases zcnd_v T B n e m 0 with h | h
    · exact Or.inl h
    · exact Or.inr ⟨h.1, by omega, c⟩
  · rw [if_neg c]; exact Or.inl rfl
theorem c_columnHere {G : zG} {h sl : Nat} (hsl : 1 ≤ sl) {T : zTb} {m : Nat} {t : Int} {B : Int → Int} {n e : Nat} {M : zM} {Q : Int → zM → Prop} (hn : n ≤ 1600) (he : e ≤ n) (hr : zRd B n e M) (hN : zNc T m t M) (hm : m ≤ 8) (q : Q (zcnm T m B n e) M) : zCt G h sl 0 0 y_Reader_columnHere [(2, 72)] M Q := by
  have hb := zto_b (B := B) he
  obtain ⟨ht, h5, h2, hl⟩ := hN
  unfold zcnm at q
  refine E_Reader_columnHere hsl ?_
  by_cases k1 : zkd B n e = 1
  · rw [if_pos k1] at q
    have hd := zkd_ltr k1
    have lp : ∀ (d i : Nat) u, d + i = m → zcnd T B n e m 0 = zcnd T B n e d i → zX G (y_Reader_columnHere, h, sl) u 2 [(0, (2, 72)), (1, (0, (i : Int)))] [] M Q := by
      intro d
      induction d with
      | zero =>
        intro i u ei ez
        refine B_Reader_columnHere_2 hsl ⟨fun g => absurd (hr.2.2.1.trans k1) g, fun _ => ?_⟩
        rw [h5, h2]
        refine ⟨by rcases ht with rfl | rfl <;> decide, fun _ => ?_, fun g => absurd (by omega) g⟩
        rw [ez] at q
        exact q
      | succ d ih =>
        intro i u ei ez
        have hK := zKnm (c := i) ht (by omega) (by omega)
        -- one more column
        have nx : ¬ zmt T B n e i = true → zX G (y_Reader_columnHere, h, sl) u 2 [(0, (2, 72)), (1, (0, (i : Int) + 1))] [] M Q := fun c => by
          have := ih (i + 1) u (by omega) (by rw [ez]; show (if _ then _ else _) = _; rw [if_neg c, zcs])
          rw [zcs] at this
          exact this
        have out : ∀ k : Int, ¬ zmt T B n e i = true → zX G (y_Reader_columnHere, h, sl) u 57 [(0, (2, 72)), (1, (0, (i : Int))), (2, (2, t + 7 + 2 * (i : Int) + 1)), (3, (0, 0)), (4, (0, k))] [] M Q := fun k c =>
          B_Reader_columnHere_57 hsl ⟨fun _ => ⟨fun _ => ⟨by unfold zI; omega, nx c⟩, fun y => absurd rfl y⟩, fun y => absurd rfl y⟩
        refine B_Reader_columnHere_2 hsl ⟨fun g => absurd (hr.2.2.1.trans k1) g, fun _ => ?_⟩
        rw [h5, h2]
        refine ⟨hK.1, fun g => absurd g (by omega), fun _ => ⟨by omega, ?_⟩⟩
        rw [hr.2.1, hr.2.2.2]
        refine ⟨by unfold zI; omega, fun g => out 0 (fun y => by unfold zmt at y; have := (of_decide_eq_true y).1; omega), fun g => ?_⟩
        have lk : ∀ (x k : Nat), x + k = 6 → (∀ j, j < k → T.1 i (10 + (j : Int)) = zwl B n e j) → zX G (y_Reader_columnHere, h, sl) u 57 [(0, (2, 72)), (1, (0, (i : Int))), (2, (2, t + 7 + 2 * (i : Int) + 1)), (3, (0, 1)), (4, (0, (k : Int)))] [] M Q := by
          intro x
          induction x with
          | zero =>
            intro k ek hj
            have hz : zmt T B n e i = true := by unfold zmt; exact decide_eq_true ⟨by omega, fun j hj6 => hj j (by omega)⟩
            have ez2 : zcnd T B n e (d + 1) i = i := by show (if _ then _ else _) = _; rw [if_pos hz]
            rw [ez, ez2] at q
            exact B_Reader_columnHere_57 hsl ⟨fun y => absurd y (by decide), fun _ => ⟨fun _ => ⟨fun y => absurd y (by decide), fun _ => q⟩, fun y => absurd (by omega) y⟩⟩
          | succ x ihx =>
            intro k ek hj
            have go : ∀ v, v = zwl B n e k → zX G (y_Reader_columnHere, h, sl) u 110 [(0, (2, 72)), (1, (0, (i : Int))), (2, (2, t + 7 + 2 * (i : Int) + 1)), (4, (0, (k : Int)))] [(0, v), (0, (M (t + 7 + 2 * (i : Int) + 1) k))] M Q := fun v ev => by
              refine B_Reader_columnHere_110 hsl ?_
              rw [hl i k (by omega) (by omega) (by omega) (by omega)]
              refine ⟨fun g2 => ⟨by unfold zI; omega, out _ (fun y => by unfold zmt at y; exact g2 (((of_decide_eq_true y).2 k (by omega)).trans ev.symm))⟩, fun g2 => ⟨by unfold zI; omega, ?_⟩⟩
              have := ihx (k + 1) (by omega) (fun j hjk => by
                by_cases c : j = k
                · subst c; rw [← ev]; exact Classical.byContradiction g2
                · exact hj j (by omega))
              rw [zcs] at this
              exact this
            refine B_Reader_columnHere_57 hsl ⟨fun y => absurd y (by decide), fun _ => ⟨fun y => absurd y (by omega), fun _ => ⟨hK.2.2.1, by rw [hK.2.2.2]; omega, ?_⟩⟩⟩
            rw [hr.2.1, hr.2.2.2]
            refine ⟨by unfold zI; omega, fun g2 => go 0 (by unfold zwl; rw [if_neg (by omega)]), fun g2 => ⟨by omega, ?_⟩⟩
            have hb2 := hr.1.2.1 ((zfr B n e : Nat) + (k : Int)) (by omega) (by omega)
            have hw := hd.2.2 k (by omega)
            rw [show ((zfr B n e + k : Nat) : Int) = ((zfr B n e : Nat) : Int) + (k : Int) from by omega] at hw
            rw [hb2]
            exact ⟨by unfold zI; omega, by unfold zI; omega, go _ (by unfold zwl; rw [if_pos (by omega), show ((zfr B n e + k : Nat) : Int) = ((zfr B n e : Nat) : Int) + (k : Int) from by omega])⟩
        exact lk 6 0 rfl (fun j hj => absurd hj (by omega))
    exact lp m 0 _ (by omega) rfl
  · rw [if_neg k1] at q
    exact B_Reader_columnHere_2 hsl ⟨fun _ => q, fun y => absurd (by rw [hr.2.2.1]; exact k1) y⟩
/-- names as numbers tell the letters -/
theorem zn27_inj {f g : Nat → Int} : ∀ (a b : Nat), (∀ k, k < a → 1 ≤ f k ∧ f k ≤ 26) → (∀ k, k < b → 1 ≤ g k ∧ g k ≤ 26) → zn27 f a = zn27 g b → a = b ∧ ∀ k, k < a → f k = g k
  | 0, 0, _, _, _ => ⟨rfl, fun k h => absurd h (by omega)⟩
  | 0, b + 1, hf, hg, h => by
    have := (zn27_in hg (b + 1) (Nat.le_refl _)).2.1 (by omega)
    rw [← h] at this
    exact absurd this (by simp [zn27])
  | a + 1, 0, hf, hg, h => by
    have := (zn27_in hf (a + 1) (Nat.le_refl _)).2.1 (by omega)
    rw [h] at this
    exact absurd this (by simp [zn27])
  | a + 1, b + 1, hf, hg, h => by
    have h1 := hf a (by omega)
    have h2 := hg b (by omega)
    have h : 27 * zn27 f a + f a = 27 * zn27 g b + g b := h
    have ih := zn27_inj a b (fun k hk => hf k (by omega)) (fun k hk => hg k (by omega)) (by omega)
    refine ⟨by omega, fun k hk => ?_⟩
    by_cases c : k = a
    · subst c
      obtain ⟨e1, _⟩ := ih
      subst e1
      omega
    · exact ih.2 k (by omega)
theorem zn27_eq {f g : Nat → Int} : ∀ a, (∀ k, k < a → f k = g k) → zn27 f a = zn27 g a
  | 0, _ => rfl
  | a + 1, h => by
    show 27 * zn27 f a + f a = 27 * zn27 g a + g a
    rw [zn27_eq a (fun k hk => h k (by omega)), h a (by omega)]
/-- the letters of the word at e -/
def zltr (B : Int → Int) (n e k : Nat) : Int := B ((zfr B n e + k : Nat) : Int) - 97 + 1
theorem zmt_27 {T : zTb} {B : Int → Int} {n e : Nat} {c v : Int} (hk : zkd B n e = 1) (h6 : zto B n e - zfr B n e ≤ 6) (hv : zNm1 T c v) : zmt T B n e c = true ↔ v = zn27 (zltr B n e) (zto B n e - zfr B n e) := by
  have hd := zkd_ltr hk
  obtain ⟨m, hm, h1, h0, ev⟩ := hv
  unfold zmt
  rw [decide_eq_true_eq, ev]
  have hl : ∀ k, k < zto B n e - zfr B n e → 1 ≤ zltr B n e k ∧ zltr B n e k ≤ 26 := fun k h => by have := hd.2.2 k h; unfold zltr; omega
  have hw : ∀ k, k < zto B n e - zfr B n e → zwl B n e k = zltr B n e k := fun k h => by unfold zwl zltr; rw [if_pos (by omega)]
  have hw0 : ∀ k, zto B n e - zfr B n e ≤ k → zwl B n e k = 0 := fun k h => by unfold zwl; rw [if_neg (by omega)]
  constructor
  · intro y
    have em : m = zto B n e - zfr B n e := by
      by_cases c1 : m < zto B n e - zfr B n e
      · have := y.2 m (by omega)
        rw [h0 m (by omega) (by omega), hw m c1] at this
        have := hl m c1
        omega
      · by_cases c2 : zto B n e - zfr B n e < m
        · have := y.2 (zto B n e - zfr B n e) (by omega)
          rw [hw0 _ (Nat.le_refl _)] at this
          have := h1 (zto B n e - zfr B n e) c2
          omega
        · omega
    rw [← em]
    exact zn27_eq m (fun k hk => by rw [y.2 k (by omega), hw k (by omega)])
  · intro y
    have inj := zn27_inj m _ h1 hl y
    refine ⟨h6, fun k hk => ?_⟩
    by_cases c1 : k < m
    · rw [hw k (by omega)]; exact inj.2 k c1
    · rw [hw0 k (by omega)]; exact h0 k (by omega) (by omega)
theorem m_columnHere {G : zG} {h sl : Nat} (hsl : 2 ≤ sl) {T : zTb} {m : Nat} {B : Int → Int} {n e : Nat} {M : zM} {Q : Int → zM → Prop} (hn : n ≤ 1600) (he : e ≤ n) (hx : zMd B n e M) (hN : zNn T m M) (hm : m ≤ 8) (q0 : zcnm T m B n e = -1 → ∀ M', zSm zPmt M M' → zMe B n e M' → Q (-1) M') (q1 : ¬ zcnm T m B n e = -1 → ∀ M', zSm zPmt M M' → zMd B n (zto B n e) M' → Q (zcnm T m B n e) M') : zCt G (h + 1) sl 0 0 y_Md_columnHere [(2, 125)] M Q := by
  have hb := zto_b (B := B) he
  unfold zcnm at q0 q1
  refine E_Md_columnHere hsl ⟨fun g => absurd hx.1.2.2 g, fun _ => m_look hsl hn he hx (fun M2 hM2 h2 => ?_)⟩
  have no : zcnm T m B n e = -1 → Q (-1) M2 := fun c => q0 c M2 (zPwl_mt hM2) h2
  unfold zcnm at no
  refine m_isLetter hsl (fun c => ⟨fun y => absurd y (by decide), fun _ => ?_⟩) (fun c => ⟨fun _ => no ?_, fun y => absurd rfl y⟩)
  · rw [zlk_k (Or.inl rfl)] at c
    rw [h2.gl (Or.inl c)]
    refine ⟨fun g => ?_, fun g => no (by rw [if_neg (by have : zkd B n e = 4 := Classical.byContradiction g; omega)])⟩
    have k1 : zkd B n e = 1 := by rw [zkd_rk g]; exact c
    have hd := zkd_ltr k1
    rw [if_pos k1] at q0 q1 no
    have hl : ∀ k, k < zto B n e - zfr B n e → 1 ≤ zltr B n e k ∧ zltr B n e k ≤ 26 := fun k h => by have := hd.2.2 k h; unfold zltr; omega
    have hN2 : zNn T m M2 := by
      unfold zNn
      rw [hM2 158 0 (by unfold zPwl; omega)]
      exact ⟨hN.1, fun c a b => by rw [hM2 159 c (by unfold zPwl; omega)]; exact hN.2 c a b⟩
    rw [h2.2]
    -- the columns
    have big : 6 < zto B n e - zfr B n e → zcnd T B n e m 0 = -1 := fun g6 => by
      rcases zcnd_v T B n e m 0 with y | y
      · exact y
      · have := y.2.2; unfold zmt at this; have := (of_decide_eq_true this).1; omega
    have cl : ∀ (d i : Nat) (k : Nat) (v : Int) u, d + i = m → zcnd T B n e m 0 = zcnd T B n e d i → (k = zto B n e - zfr B n e ∧ k ≤ 6 ∧ v = zn27 (zltr B n e) k ∨ k = 7 ∧ 6 < zto B n e - zfr B n e) → zX G (y_Md_columnHere, h + 1, sl) u 97 [(0, (2, 125)), (1, (0, ((zfr B n e : Nat) : Int) + (k : Int))), (2, (1, v)), (4, (0, (i : Int)))] [] M2 Q := by
      intro d
      induction d with
      | zero =>
        intro i k v u ei ez hk
        refine B_Md_columnHere_97 hsl ?_
        rw [hN2.1]
        exact ⟨fun _ => no ez, fun y => absurd (by omega) y⟩
      | succ d ih =>
        intro i k v u ei ez hk
        refine B_Md_columnHere_97 hsl ?_
        rw [hN2.1, h2.2]
        refine ⟨fun y => absurd y (by omega), fun _ => ⟨by unfold zI; omega, fun g7 => no (big (by omega)), fun g7 => ⟨by omega, ?_⟩⟩⟩
        rcases hk with hk | hk
        · have hz := zmt_27 k1 (by omega) (hN2.2 i (by omega) (by omega))
          rw [← hk.1, ← hk.2.2] at hz
          refine ⟨fun g8 => ?_, fun g8 => ⟨by unfold zI; omega, ?_⟩⟩
          · have hz2 := hz.2 g8
            have ez2 : zcnd T B n e m 0 = i := by rw [ez]; show (if _ then _ else _) = _; rw [if_pos hz2]
            rw [ez2] at q1
            refine q1 (by omega) _ (((zPwl_mt hM2).wr ⟨rfl, by decide⟩).wr ⟨rfl, by decide⟩) ?_
            exact zMd.tk (x := ((zfr B n e : Nat) : Int) + (k : Int)) h2.1.1 (Or.inl c) (fun a k p => by rw [zwr_i, if_neg (by omega), zwr_i, if_neg (by omega)]) (by rw [zwr_k _ (by decide), zwr_s]) (by rw [zwr_s]) (by omega)
          · have := ih (i + 1) k v u (by omega) (by rw [ez]; show (if _ then _ else _) = _; rw [if_neg (fun y => g8 (hz.1 y)), zcs]) (Or.inl hk)
            rw [zcs] at this
            exact this
        · omega
    -- the letters
    have ll : ∀ (d k : Nat) u, n ≤ d + (zfr B n e + k) → k ≤ 7 → zfr B n e + k ≤ zto B n e → zX G (y_Md_columnHere, h + 1, sl) u 37 [(0, (2, 125)), (1, (0, ((zfr B n e : Nat) : Int) + (k : Int))), (2, (1, zn27 (zltr B n e) k))] [] M2 Q := by
      intro d
      induction d with
      | zero =>
        intro k u hdn k7 ek
        refine B_Md_columnHere_37 hsl ⟨fun _ => cl m 0 k _ u (by omega) rfl (by omega), fun y => absurd (by rw [h2.1.1.1.1]; omega) y⟩
      | succ d ih =>
        intro k u hdn k7 ek
        have hzr : zru B n 1 (zfr B n e + k) = zto B n e := by rw [hd.1]; exact zru_mid (by omega) (by omega)
        refine B_Md_columnHere_37 hsl ?_
        rw [h2.1.1.1.1]
        refine ⟨fun _ => cl m 0 k _ u (by omega) rfl (by omega), fun y => ⟨by omega, ?_⟩⟩
        rw [h2.1.1.2.1 _ (by omega) (by omega), show ((zfr B n e : Nat) : Int) + (k : Int) = ((zfr B n e + k : Nat) : Int) from by omega]
        refine m_isLetter hsl (fun c2 => ⟨fun y => absurd y (by decide), fun _ => ?_⟩) (fun c2 => ⟨fun _ => ?_, fun y => absurd rfl y⟩)
        · have e5 := zru_1 (B := B) (n := n) (e := zfr B n e + k) (k := 1) ⟨by omega, c2⟩
          have e6 := zru_le B n 1 (zfr B n e + k + 1)
          rw [h2.2]
          refine ⟨by unfold zI; omega, fun g7 => ?_, fun g7 => ?_⟩
          · have := cl m 0 7 (zn27 (zltr B n e) k) u (by omega) rfl (Or.inr ⟨rfl, by omega⟩)
            rw [show ((zfr B n e + k : Nat) : Int) = ((zfr B n e : Nat) : Int) + ((7 : Nat) : Int) from by omega]
            exact this
          · have hb6 := zn27_in (f := zltr B n e) (m := k) (fun j hj => hl j (by omega)) k (Nat.le_refl _)
            have hB6 := zn27_b (f := zltr B n e) (m := k) (k := k) (fun j hj => hl j (by omega)) (Nat.le_refl _) (by omega)
            have hlk := hl k (by omega)
            unfold zltr at hlk
            rw [h2.1.1.2.1 _ (by omega) (by omega)]
            refine ⟨by unfold zL; omega, by unfold zL; omega, by unfold zL; omega, by unfold zL; omega, by unfold zI; omega, ?_⟩
            have := ih (k + 1) u (by omega) (by omega) (by omega)
            rw [show zn27 (zltr B n e) (k + 1) = 27 * zn27 (zltr B n e) k + B ((zfr B n e + k : Nat) : Int) - 97 + 1 from by show _ + zltr B n e k = _; unfold zltr; omega, show ((zfr B n e : Nat) : Int) + ((k + 1 : Nat) : Int) = ((zfr B n e + k : Nat) : Int) + 1 from by omega] at this
            exact this
        · rw [zru_0 (fun y => c2 y.2)] at hzr
          have := cl m 0 k (zn27 (zltr B n e) k) u (by omega) rfl (by omega)
          rw [show ((zfr B n e : Nat) : Int) + (k : Int) = ((zfr B n e + k : Nat) : Int) from by omega] at this
          exact this
    have := ll n 0 (0, 0, 0, 0) (by omega) (by omega) (by omega)
    rw [show ((zfr B n e : Nat) : Int) + ((0 : Nat) : Int) = ((zfr B n e : Nat) : Int) from by omega] at this
    exact this
  · rw [zlk_k (Or.inl rfl)] at c
    rw [if_neg (fun y => c (by rw [← zkd_rk (by omega)]; exact y))]
