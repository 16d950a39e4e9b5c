/-! To heal: the line with some columns set to what is true. -/
def zht (T : zTb) (L : Int → Int) (s k : Nat) : Int → Int := fun j =>
  if 1 ≤ j ∧ j ≤ 8 ∧ j - 1 < k ∧ s / 2 ^ (j - 1).toNat % 2 = 1 then ztr T (L 0).toNat j
  else if 9 ≤ j ∧ j ≤ 16 ∧ j - 9 < k ∧ s / 2 ^ (j - 9).toNat % 2 = 1 then ztr T (L 0).toNat j else L j
theorem zht_0 (T : zTb) (L : Int → Int) (s : Nat) : zht T L s 0 = L := by
  funext j
  unfold zht
  rw [if_neg (by omega), if_neg (by omega)]
theorem zht_no {T : zTb} {L : Int → Int} {s k : Nat} (hk : k < 8) (h : ¬ s / 2 ^ k % 2 = 1) : zht T L s (k + 1) = zht T L s k := by
  funext j
  unfold zht
  by_cases c1 : j = 1 + (k : Int)
  · subst c1
    rw [show (1 + (k : Int) - 1).toNat = k from by omega, if_neg (fun x => h x.2.2.2), if_neg (fun x => absurd x.2.2.1 (by omega))]
    rw [if_neg (by omega), if_neg (by omega)]
  · by_cases c2 : j = 9 + (k : Int)
    · subst c2
      rw [if_neg (by omega), if_neg (fun x => h (by have := x.2.2.2; rw [show (9 + (k : Int) - 9).toNat = k from by omega] at this; exact this)), if_neg (by omega), if_neg (by omega)]
    · have e1 : (1 ≤ j ∧ j ≤ 8 ∧ j - 1 < ((k + 1 : Nat) : Int) ∧ s / 2 ^ (j - 1).toNat % 2 = 1) ↔ (1 ≤ j ∧ j ≤ 8 ∧ j - 1 < (k : Int) ∧ s / 2 ^ (j - 1).toNat % 2 = 1) := by
        constructor
        · intro x; exact ⟨x.1, x.2.1, by omega, x.2.2.2⟩
        · intro x; exact ⟨x.1, x.2.1, by omega, x.2.2.2⟩
      have e2 : (9 ≤ j ∧ j ≤ 16 ∧ j - 9 < ((k + 1 : Nat) : Int) ∧ s / 2 ^ (j - 9).toNat % 2 = 1) ↔ (9 ≤ j ∧ j ≤ 16 ∧ j - 9 < (k : Int) ∧ s / 2 ^ (j - 9).toNat % 2 = 1) := by
        constructor
        · intro x; exact ⟨x.1, x.2.1, by omega, x.2.2.2⟩
        · intro x; exact ⟨x.1, x.2.1, by omega, x.2.2.2⟩
      simp only [e1, e2]
theorem zht_yes {T : zTb} {L : Int → Int} {s k : Nat} (hk : k < 8) (h : s / 2 ^ k % 2 = 1) : zht T L s (k + 1) = zup (zup (zht T L s k) (1 + k) (ztr T (L 0).toNat (1 + k))) (9 + k) (ztr T (L 0).toNat (9 + k)) := by
  funext j
  by_cases c2 : j = 9 + (k : Int)
  · subst c2
    rw [zup_s]
    unfold zht
    rw [if_neg (by omega), if_pos ⟨by omega, by omega, by omega, by rw [show (9 + (k : Int) - 9).toNat = k from by omega]; exact h⟩]
  · rw [zup_o _ _ c2]
    by_cases c1 : j = 1 + (k : Int)
    · subst c1
      rw [zup_s]
      unfold zht
      rw [if_pos ⟨by omega, by omega, by omega, by rw [show (1 + (k : Int) - 1).toNat = k from by omega]; exact h⟩]
    · rw [zup_o _ _ c1]
      unfold zht
      have e1 : (1 ≤ j ∧ j ≤ 8 ∧ j - 1 < ((k + 1 : Nat) : Int) ∧ s / 2 ^ (j - 1).toNat % 2 = 1) ↔ (1 ≤ j ∧ j ≤ 8 ∧ j - 1 < (k : Int) ∧ s / 2 ^ (j - 1).toNat % 2 = 1) := by
        constructor
        · intro x; exact ⟨x.1, x.2.1, by omega, x.2.2.2⟩
        · intro x; exact ⟨x.1, x.2.1, by omega, x.2.2.2⟩
      have e2 : (9 ≤ j ∧ j ≤ 16 ∧ j - 9 < ((k + 1 : Nat) : Int) ∧ s / 2 ^ (j - 9).toNat % 2 = 1) ↔ (9 ≤ j ∧ j ≤ 16 ∧ j - 9 < (k : Int) ∧ s / 2 ^ (j - 9).toNat % 2 = 1) := by
        constructor
        · intro x; exact ⟨x.1, x.2.1, by omega, x.2.2.2⟩
        · intro x; exact ⟨x.1, x.2.1, by omega, x.2.2.2⟩
      simp only [e1, e2]
theorem zht_z (T : zTb) (L : Int → Int) (s k : Nat) : zht T L s k 0 = L 0 := by
  unfold zht
  rw [if_neg (by omega), if_neg (by omega)]
theorem ztr_ok {T : zTb} (hT : zTok T) {k : Nat} (hk : k ≤ 8000) : ztr T k 0 = k ∧ zLok T (T.1 8 0) (ztr T k) := by
  have hb := zbg_ok hT
  have := zln_ok hT hb.2 k (by rw [hb.1]; omega)
  rw [hb.1] at this
  exact ⟨by have := this.1; unfold ztr; omega, this.2⟩
theorem zht_ok {T : zTb} {L : Int → Int} (hP : zPu T L) (s k : Nat) : zLok T (T.1 8 0) (zht T L s k) := by
  have h8 := hP.1.2.1
  have h9 := hP.2.2
  have hv := (ztr_ok hP.1 (k := (L 0).toNat) (by omega)).2
  refine ⟨by rw [zht_z]; exact hP.2.1.1, by rw [zht_z]; exact hP.2.1.2.1, fun c c0 cn => ?_⟩
  by_cases b : c < k ∧ s / 2 ^ c.toNat % 2 = 1
  · have e1 : zht T L s k (1 + c) = ztr T (L 0).toNat (1 + c) := by
      unfold zht
      rw [if_pos ⟨by omega, by omega, by omega, by rw [show (1 + c - 1).toNat = c.toNat from by omega]; exact b.2⟩]
    have e2 : zht T L s k (9 + c) = ztr T (L 0).toNat (9 + c) := by
      unfold zht
      rw [if_neg (by omega), if_pos ⟨by omega, by omega, by omega, by rw [show (9 + c - 9).toNat = c.toNat from by omega]; exact b.2⟩]
    rw [e1, e2]
    exact hv.2.2 c c0 cn
  · have e1 : zht T L s k (1 + c) = L (1 + c) := by
      unfold zht
      rw [if_neg (fun x => b ⟨by omega, by have := x.2.2.2; rw [show (1 + c - 1).toNat = c.toNat from by omega] at this; exact this⟩), if_neg (by omega)]
    have e2 : zht T L s k (9 + c) = L (9 + c) := by
      unfold zht
      rw [if_neg (by omega), if_neg (fun x => b ⟨by omega, by have := x.2.2.2; rw [show (9 + c - 9).toNat = c.toNat from by omega] at this; exact this⟩)]
    rw [e1, e2]
    exact hP.2.1.2.2 c c0 cn
/-- all is true in each of the next lines -/
def zhb (T : zTb) (X : Int → Int) : Nat → Bool
  | 0 => true
  | d + 1 => if zwm T (znx T X) = 0 then zhb T (znx T X) d else false
theorem zwg_eq {L V : Int → Int} : ∀ {k : Nat}, (∀ c : Int, 0 ≤ c → c < (k : Int) → L (1 + c) = V (1 + c)) → zwg L V k = 0
  | 0, _ => rfl
  | k + 1, h => by
    have := zwg_eq (k := k) (fun c a b => h c a (by omega))
    unfold zwg
    rw [this, if_pos (h k (by omega) (by omega))]
    rfl
theorem zwg_ne {L V : Int → Int} : ∀ {k : Nat} (c : Int), 0 ≤ c → c < (k : Int) → L (1 + c) ≠ V (1 + c) → 0 < zwg L V k
  | 0, c, a, b, _ => absurd b (by omega)
  | k + 1, c, a, b, h => by
    have hz := zwg_in L V k
    unfold zwg
    by_cases e : c = k
    · subst e
      rw [if_neg h]
      omega
    · have := zwg_ne (k := k) c a (by omega) h
      split <;> omega
/-- sets that may be tried: no sums -/
def zns (T : zTb) (s : Nat) : Nat → Bool
  | 0 => true
  | k + 1 => zns T s k && !(decide (s / 2 ^ k % 2 = 1) && decide (T.1 k 0 = 3))
def zpm (T : zTb) (L : Int → Int) (n s : Nat) : Bool := zns T s (T.1 8 0).toNat && zhb T (zht T L s (T.1 8 0).toNat) n
def zhea (T : zTb) (L : Int → Int) (n : Int) : Int := if 1 ≤ n ∧ n ≤ 60 ∧ L 0 + n ≤ 999 then (zsc (zpm T L n.toNat) (2 ^ (T.1 8 0).toNat)).1 else -1
/-- the columns astray, as bits -/
def zas (T : zTb) (L : Int → Int) (c : Int) : Prop := T.1 c 0 ≠ 3 ∧ ¬ (L (1 + c) = ztr T (L 0).toNat (1 + c) ∧ L (9 + c) = ztr T (L 0).toNat (9 + c))
theorem zns_iff {T : zTb} {s : Nat} : ∀ {k : Nat}, zns T s k = true ↔ ∀ c : Nat, c < k → s / 2 ^ c % 2 = 1 → T.1 (c : Int) 0 ≠ 3
  | 0 => by simp [zns]
  | k + 1 => by
    unfold zns
    rw [Bool.and_eq_true, zns_iff]
    constructor
    · rintro ⟨h1, h2⟩ c hc hb
      by_cases e : c = k
      · subst e
        intro h3
        simp [hb, h3] at h2
      · exact h1 c (by omega) hb
    · intro h
      refine ⟨fun c hc => h c (by omega), ?_⟩
      by_cases hb : s / 2 ^ k % 2 = 1
      · have := h k (by omega) hb
        simp [this]
      · simp [hb]
/-- what the class tries: no more than the columns astray -/
def zpc (T : zTb) (L : Int → Int) (A n s : Nat) : Bool := decide (∀ d : Nat, d < 8 → s / 2 ^ d % 2 = 1 → A / 2 ^ d % 2 = 1) && zhb T (zht T L s (T.1 8 0).toNat) n
theorem zsc_same {T : zTb} {L : Int → Int} {A n : Nat} (hP : zPu T L) (hA : ∀ d : Nat, d < 8 → (A / 2 ^ d % 2 = 1 ↔ (d : Int) < T.1 8 0 ∧ zas T L d)) : zsc (zpc T L A n) (2 ^ (T.1 8 0).toNat) = zsc (zpm T L n) (2 ^ (T.1 8 0).toNat) := by
  have h0 := hP.1.1
  have h8 := hP.1.2.1
  have hp8 : 2 ^ (T.1 8 0).toNat ≤ 256 := Nat.pow_le_pow_right (n := 2) (by decide) (show (T.1 8 0).toNat ≤ 8 by omega)
  refine zsc_eq _ (fun s hs h => ?_) (fun s hs h hn => ?_)
  · unfold zpc at h
    rw [Bool.and_eq_true] at h
    unfold zpm
    rw [Bool.and_eq_true]
    refine ⟨zns_iff.mpr (fun c hc hb => ?_), h.2⟩
    have := (hA c (by omega)).mp (of_decide_eq_true h.1 c (by omega) hb)
    exact this.2.1
  · unfold zpm at h
    rw [Bool.and_eq_true, zns_iff] at h
    have hex : ¬ ∀ d : Nat, d < 8 → s / 2 ^ d % 2 = 1 → A / 2 ^ d % 2 = 1 := by
      intro g
      apply hn
      unfold zpc
      rw [Bool.and_eq_true]
      exact ⟨decide_eq_true g, h.2⟩
    obtain ⟨c, hc⟩ := Classical.not_forall.mp hex
    have hc8 : c < 8 := by apply Classical.byContradiction; intro x; exact hc (fun y => absurd y x)
    have hb : s / 2 ^ c % 2 = 1 := by apply Classical.byContradiction; intro x; exact hc (fun _ y => absurd y x)
    have hAc : ¬ A / 2 ^ c % 2 = 1 := fun x => hc (fun _ _ => x)
    have hcn : c < (T.1 8 0).toNat := by
      apply Classical.byContradiction
      intro x
      have h1 : 2 ^ (T.1 8 0).toNat ≤ 2 ^ c := Nat.pow_le_pow_right (by decide) (by omega)
      have : s / 2 ^ c = 0 := Nat.div_eq_of_lt (by omega)
      rw [this] at hb
      simp at hb
    have hr : ¬ zas T L c := fun x => hAc ((hA c hc8).mpr ⟨by omega, x⟩)
    have hns := h.1 c hcn hb
    have hrt : L (1 + c) = ztr T (L 0).toNat (1 + c) ∧ L (9 + c) = ztr T (L 0).toNat (9 + c) := by
      apply Classical.byContradiction
      intro x
      exact hr ⟨hns, x⟩
    obtain ⟨g1, g2, g3⟩ := zbit_f ⟨s, by omega⟩ ⟨c, hc8⟩ hb
    simp only at g1 g2 g3
    have hp : 0 < 2 ^ c := Nat.two_pow_pos c
    have hbit : ∀ d : Nat, d < 8 → (s - 2 ^ c) / 2 ^ d % 2 = if d = c then 0 else s / 2 ^ d % 2 := fun d hd => by
      have := g3 ⟨d, hd⟩
      simp only [Fin.mk.injEq] at this
      exact this
    refine ⟨s - 2 ^ c, by omega, ?_, by omega⟩
    unfold zpm
    rw [Bool.and_eq_true, zns_iff]
    refine ⟨fun d hd hb' => h.1 d hd ?_, ?_⟩
    · rw [hbit d (by omega)] at hb'
      split at hb'
      · omega
      · exact hb'
    · have e : zht T L (s - 2 ^ c) (T.1 8 0).toNat = zht T L s (T.1 8 0).toNat := by
        funext j
        unfold zht
        by_cases j1 : 1 ≤ j ∧ j ≤ 8
        · rw [hbit (j - 1).toNat (by omega)]
          by_cases jc : (j - 1).toNat = c
          · rw [if_pos jc, if_neg (by omega), if_neg (by omega)]
            have ej : j = 1 + (c : Int) := by omega
            split
            · rw [ej]; exact hrt.1
            · rw [if_neg (by omega)]
          · rw [if_neg jc, if_neg (by omega : ¬ (9 ≤ j ∧ j ≤ 16 ∧ j - 9 < ((T.1 8 0).toNat : Int) ∧ (s - 2 ^ c) / 2 ^ (j - 9).toNat % 2 = 1)), if_neg (by omega : ¬ (9 ≤ j ∧ j ≤ 16 ∧ j - 9 < ((T.1 8 0).toNat : Int) ∧ s / 2 ^ (j - 9).toNat % 2 = 1))]
        · rw [if_neg (by omega), if_neg (by omega : ¬ (1 ≤ j ∧ j ≤ 8 ∧ j - 1 < ((T.1 8 0).toNat : Int) ∧ s / 2 ^ (j - 1).toNat % 2 = 1))]
          by_cases j2 : 9 ≤ j ∧ j ≤ 16
          · rw [hbit (j - 9).toNat (by omega)]
            by_cases jc : (j - 9).toNat = c
            · rw [if_pos jc, if_neg (by omega)]
              have ej : j = 9 + (c : Int) := by omega
              split
              · rw [ej]; exact hrt.2
              · rfl
            · rw [if_neg jc]
          · rw [if_neg (by omega), if_neg (by omega)]
      rw [e]
      exact h.2
