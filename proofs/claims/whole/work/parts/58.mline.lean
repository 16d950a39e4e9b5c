/-! The Model's line goes on as zmv, znx. -/
def zPG : Int → Int → Prop := fun a k => a = 195 ∨ a = 125 ∧ (k = 50 ∨ k = 54 ∨ k = 96) ∨ a = 164 ∧ 0 ≤ k ∧ k < 17
def zTmC (T : zTb) (M : zM) (c : Int) : Prop := 0 ≤ M 161 (9 + c) ∧ M 161 (9 + c) + (T.2 c).length = M 162 (9 + c) ∧ M 162 (9 + c) ≤ 1600 ∧ zSg M 163 (1600 + M 161 (9 + c)) (T.2 c)
def zTm1 (T : zTb) (M : zM) (c : Int) : Prop :=
  M 160 (56 + 7 * c + 0) = T.1 c 0 ∧ M 160 (56 + 7 * c + 1) = (if T.1 c 0 = 1 then T.1 c 7 else T.1 c 1) ∧ M 160 (56 + 7 * c + 2) = (if T.1 c 0 = 1 ∨ T.1 c 0 = 2 then T.1 c 2 + 1 else T.1 c 2) ∧
  M 160 (56 + 7 * c + 3) = T.1 c 5 ∧ M 160 (56 + 7 * c + 4) = T.1 c 3 ∧ M 160 (56 + 7 * c + 5) = T.1 c 4 ∧ M 160 (56 + 7 * c + 6) = T.1 c 6 ∧ (2 ≤ T.1 c 0 → zTmC T M c)
def zTm (T : zTb) (M : zM) : Prop :=
  M 158 2 = T.1 8 0 ∧ M 158 3 = T.1 8 1 ∧ M 125 52 = T.1 8 3 ∧ (∀ c, 0 ≤ c → c < T.1 8 0 → zTm1 T M c) ∧ (T.1 8 3 = 1 → zTmC T M 8)
def zLm (n : Int) (L : Int → Int) (M : zM) : Prop := M 164 0 = L 0 ∧ ∀ c, 0 ≤ c → c < n → M 164 (1 + c) = L (1 + c) ∧ M 164 (9 + c) = L (9 + c)
theorem zTmC.fr {T : zTb} {M M' : zM} {c : Int} (e : ∀ a k, 161 ≤ a → a ≤ 163 → M' a k = M a k) (h : zTmC T M c) : zTmC T M' c := by
  obtain ⟨a, b, d, f⟩ := h
  unfold zTmC
  rw [e 161 _ (by omega) (by omega), e 162 _ (by omega) (by omega)]
  exact ⟨a, b, d, zSg_eq (fun j => e 163 j (by omega) (by omega)) f⟩
theorem zTm1.fr {T : zTb} {M M' : zM} {c : Int} (e : ∀ a k, 160 ≤ a → a ≤ 163 → M' a k = M a k) (h : zTm1 T M c) : zTm1 T M' c := by
  unfold zTm1 at h ⊢
  rw [e 160 _ (by omega) (by omega), e 160 _ (by omega) (by omega), e 160 _ (by omega) (by omega), e 160 _ (by omega) (by omega), e 160 _ (by omega) (by omega), e 160 _ (by omega) (by omega), e 160 _ (by omega) (by omega)]
  exact ⟨h.1, h.2.1, h.2.2.1, h.2.2.2.1, h.2.2.2.2.1, h.2.2.2.2.2.1, h.2.2.2.2.2.2.1, fun g => (h.2.2.2.2.2.2.2 g).fr (fun a k h1 h2 => e a k (by omega) h2)⟩
theorem zTm.fr {T : zTb} {M M' : zM} (hm : zSm zPG M M') (h : zTm T M) : zTm T M' := by
  obtain ⟨a, b, d, f, g⟩ := h
  unfold zTm
  rw [hm 158 2 (by unfold zPG; omega), hm 158 3 (by unfold zPG; omega), hm 125 52 (by unfold zPG; omega)]
  exact ⟨a, b, d, fun c h0 hc => (f c h0 hc).fr (fun a k h1 h2 => hm a k (by unfold zPG; omega)), fun q => (g q).fr (fun a k h1 h2 => hm a k (by unfold zPG; omega))⟩
theorem zLm.fr {n : Int} {L : Int → Int} {M M' : zM} (e : ∀ k, M' 164 k = M 164 k) (h : zLm n L M) : zLm n L M' := ⟨by rw [e]; exact h.1, fun c h0 hc => by rw [e, e]; exact h.2 c h0 hc⟩
theorem zLm.val {n c v : Int} {L : Int → Int} {M : zM} (hn : n ≤ 8) (h0 : 0 ≤ c) (h : zLm n L M) : zLm n (zup L (1 + c) v) (zwr M 164 (1 + c) v) := by
  refine ⟨by rw [zwr_k _ (by omega), zup_o _ _ (by omega)]; exact h.1, fun e e0 ee => ?_⟩
  by_cases q : e = c
  · subst q
    by_cases q2 : 9 + e = 1 + e
    · omega
    · rw [zwr_s, zup_s, zwr_k _ (by omega), zup_o _ _ (by omega)]
      exact ⟨rfl, (h.2 e e0 ee).2⟩
  · by_cases q2 : 9 + e = 1 + c
    · rw [q2, zwr_s, zup_s, zwr_k _ (by omega), zup_o _ _ (by omega)]
      exact ⟨(h.2 e e0 ee).1, rfl⟩
    · rw [zwr_k _ (by omega), zup_o _ _ (by omega), zwr_k _ (by omega), zup_o _ _ (by omega)]
      exact h.2 e e0 ee
theorem zLm.way {n c v : Int} {L : Int → Int} {M : zM} (hn : n ≤ 8) (h0 : 0 ≤ c) (h : zLm n L M) : zLm n (zup L (9 + c) v) (zwr M 164 (9 + c) v) := by
  refine ⟨by rw [zwr_k _ (by omega), zup_o _ _ (by omega)]; exact h.1, fun e e0 ee => ?_⟩
  rw [zwr_k _ (by omega), zup_o _ _ (by omega)]
  by_cases q : e = c
  · subst q
    rw [zwr_s, zup_s]
    exact ⟨(h.2 e e0 ee).1, rfl⟩
  · rw [zwr_k _ (by omega), zup_o _ _ (by omega)]
    exact h.2 e e0 ee
theorem c_fieldOf {G : zG} {h sl : Nat} (hsl : 2 ≤ sl) {c k : Int} {M : zM} {Q : Int → zM → Prop} (h0 : 0 ≤ c) (h8 : c < 8) (k0 : 0 ≤ k) (k7 : k < 7) (q : Q (M 160 (56 + 7 * c + k)) M) : zCt G h sl 0 0 y_Md_fieldOf [(2, 125), (0, c), (0, k)] M Q :=
  E_Md_fieldOf hsl ⟨by unfold zI; omega, by unfold zI; omega, by unfold zI; omega, by omega, q⟩
theorem c_sortOf {G : zG} {h sl : Nat} (hsl : 2 ≤ sl) {c : Int} {M : zM} {Q : Int → zM → Prop} (h0 : 0 ≤ c) (h8 : c < 8) (q : Q (M 160 (56 + 7 * c + 0)) M) : zCt G (h + 1) sl 0 0 y_Md_sortOf [(2, 125), (0, c)] M Q :=
  E_Md_sortOf hsl (c_fieldOf hsl h0 h8 (by decide) (by decide) q)
theorem c_valueOf {G : zG} {h sl : Nat} (hsl : 2 ≤ sl) {c : Int} {M : zM} {Q : Int → zM → Prop} (h0 : 0 ≤ c) (h8 : c < 8) (q : Q (M 164 (1 + c)) M) : zCt G h sl 0 0 y_Md_valueOf [(2, 125), (0, c)] M Q :=
  E_Md_valueOf hsl ⟨by unfold zI; omega, by omega, q⟩
theorem zScM_of {G : zG} {h sl : Nat} (hsl : 2 ≤ sl) {n k prev : Int} {pv : Bool} {L : Int → Int} {M : zM} (hn : n ≤ 8) (hk : k ≤ n) (hL : zLm n L M) (hp : pv = true → M 125 54 = prev) : zScM G (h + 1) sl 0 (zokT k pv) (zEn L prev) M := by
  intro v Q h1 h2 hv q
  rw [zokT_ok] at hv
  rcases hv with rfl | ⟨rfl, hh⟩ | ⟨h3, h4⟩
  · refine E_Md_qPartOf hsl ⟨fun _ => ⟨fun _ => ?_, fun c => absurd c (by decide), fun c => absurd c (by decide), fun c => absurd c (by decide), fun c => absurd c (by decide), fun c => absurd c (by decide)⟩, fun c => absurd (by decide) c⟩
    rw [hL.1]
    simpa [zEn] using q
  · refine E_Md_qPartOf hsl ⟨fun _ => ⟨fun c => absurd c (by decide), fun _ => ?_, fun c => absurd c (by decide), fun c => absurd c (by decide), fun c => absurd c (by decide), fun c => absurd c (by decide)⟩, fun c => absurd (by decide) c⟩
    rw [hp hh]
    simpa [zEn] using q
  · refine E_Md_qPartOf hsl ⟨fun c => absurd c (by omega), fun _ => ⟨by unfold zI; omega, c_valueOf hsl (by omega) (by omega) ?_⟩⟩
    rw [(hL.2 (v - 40 - 8) (by omega) (by omega)).1]
    simp only [zEn] at q
    rw [if_neg (by omega), if_neg (by omega)] at q
    exact q
def zPS : Int → Int → Prop := fun a k => a = 195 ∨ a = 125 ∧ (k = 50 ∨ k = 54 ∨ k = 96)
theorem c_summed {G : zG} {h sl : Nat} (hsl : 2 ≤ sl) {T : zTb} {c n prev : Int} {L : Int → Int} {M : zM} {Q : Int → zM → Prop} (hT : ∀ c, 0 ≤ c → c < 8 → c < n → zTok1 T c) (h0 : 0 ≤ c) (h8 : c < 8) (hn : n ≤ 8) (hcn : c ≤ n) (hz : zty (zokT c true) (T.2 c) [] = some [false]) (hc : zTmC T M c) (hL : zLok T n L) (hm : zLm n L M) (hp : -1000000 ≤ prev ∧ prev ≤ 1000000) (q : ∀ M', zSm zPS M M' → Q (zsm T L c prev) M') : zCt G (h + 1 + 1 + 1) sl 0 0 y_Md_summed [(2, 125), (0, c), (0, prev)] M Q := by
  have hE := zEn_ok (k := c) (pv := true) (fun e a b => hT e a (by omega) b) hL hcn (fun _ => hp)
  have hin := zval_in hE hz
  rw [if_neg (by decide)] at hin
  have hM0 : zSm zPS M (zwr M 125 54 prev) := (zSm.refl _ M).wr (Or.inr ⟨rfl, Or.inr (Or.inl rfl)⟩)
  have hup : ∀ {M'}, zSm zPT (zwr M 125 54 prev) M' → zSm zPS M M' := fun hh => hM0.trans (hh.mono (fun o k p => by unfold zPT at p; unfold zPS; omega))
  have hc' : zTmC T (zwr M 125 54 prev) c := hc.fr (fun a k h1 h2 => hM0 a k (by unfold zPS; omega))
  obtain ⟨c1, c2, c3, c4⟩ := hc'
  refine E_Md_summed hsl (c_codesTell hsl (ok := zokT c true) (E := zEn L prev) (ty := false) (cs := T.2 c) ⟨h0, by omega⟩ hE (fun v a b => ?_) (fun M' hh => zScM_of hsl hn hcn (hm.fr (fun j => hup hh 164 j (by unfold zPS; omega))) (fun _ => ?_)) c1 c2 c3 c4 hz (fun M' hh => ⟨fun g => ⟨fun g2 => ?_, fun g2 => absurd hin.1 g2⟩, fun g => absurd hin.2 g⟩))
  · cases e : zokT c true v with
    | false => rfl
    | true => rw [zokT_ok] at e; omega
  · rw [hh 125 54 (by unfold zPT; omega), zwr_s]
  · rw [zl2i_in (by unfold zI; omega)]
    exact q M' (hup hh)
theorem c_around {G : zG} {h sl : Nat} (hsl : 2 ≤ sl) {a b : Int} {M : zM} {Q : Int → zM → Prop} (h0 : 0 < b) (hb : b < 1000000000) (q : Q (a % b) M) : zCt G h sl 0 0 y_Md_around [(1, a), (0, b)] M Q := by
  have ht : Int.tmod a b = if 0 ≤ a then a % b else if a % b = 0 then 0 else a % b - b := by
    rw [Int.tmod_eq_emod]
    by_cases c : 0 ≤ a
    · rw [if_pos (Or.inl c), if_pos c]; omega
    · by_cases c2 : b ∣ a
      · rw [if_pos (Or.inr c2), if_neg c, if_pos (Int.emod_eq_zero_of_dvd c2), Int.emod_eq_zero_of_dvd c2]; rfl
      · rw [if_neg (by simp [c, c2]), if_neg c, if_neg (fun e => c2 (Int.dvd_of_emod_eq_zero e))]
        omega
  have h1 := Int.emod_nonneg a (by omega : b ≠ 0)
  have h2 := Int.emod_lt_of_pos a h0
  have h3 : Int.tmod a b = a % b ∨ Int.tmod a b + b = a % b ∧ Int.tmod a b < 0 := by
    rw [ht]
    split
    · exact Or.inl rfl
    · split
      · rename_i e; exact Or.inl e.symm
      · exact Or.inr ⟨by omega, by omega⟩
  refine E_Md_around hsl ⟨by omega, fun c => ?_, fun c => ⟨by unfold zL; omega, ?_⟩⟩
  · rw [show Int.tmod a b = a % b from by omega, zl2i_in (by unfold zI; omega)]
    exact q
  · rw [show Int.tmod a b + b = a % b from by omega, zl2i_in (by unfold zI; omega)]
    exact q
