theorem c_arcBehind {G : zG} {h sl : Nat} (hsl : 1 ≤ sl) {o v : Int} {M : zM} {Q : Int → zM → Prop} (hk : zK o = (1, 0)) (h1 : 3 ≤ M o 3) (h1' : M o 3 ≤ 998) (h2 : 2 ≤ M o 8) (h3 : M o 8 ≤ M o 3 - 1) (h4 : 1 ≤ M o 6) (h5 : M o 6 ≤ M o 8) (h6 : 1 ≤ M o 7) (h7 : M o 7 ≤ M o 3 + 1 - M o 8) (h0 : 0 ≤ v) (hg : v ≤ M o 3) (q : Q (zarc (M o 8) (M o 3) (M o 6) (M o 7) v) M) : zCt G h sl 0 0 y_Column_arcBehind [(2, o), (0, v)] M Q := by
  have td : ∀ {x b : Int}, 0 ≤ x → 0 ≤ Int.tdiv x b ∧ Int.tdiv x b ≤ x ∨ b < 0 := fun {x b} hx => by
    by_cases hb : b < 0
    · exact Or.inr hb
    · rw [Int.tdiv_eq_ediv_of_nonneg hx]
      exact Or.inl ⟨Int.ediv_nonneg hx (by omega), Int.ediv_le_self _ hx⟩
  unfold zarc at q
  refine E_Column_arcBehind hsl ⟨hk, fun g => ?_, fun g => ?_⟩
  · refine B_Column_arcBehind_13 hsl ⟨fun _ => ⟨hk, ?_⟩, fun n => absurd rfl n⟩
    refine B_Column_arcBehind_29 hsl ⟨fun _ => ⟨hk, ?_⟩, fun n => absurd rfl n⟩
    refine B_Column_arcBehind_45 hsl ⟨by unfold zI; omega, fun _ => ⟨hk, by unfold zI; omega, ?_⟩, fun n => absurd rfl n⟩
    rw [if_neg (by omega)] at q
    refine B_Column_arcBehind_67 hsl ⟨by unfold zI; omega, fun g2 => ⟨by unfold zI; omega, ?_⟩, fun g2 => ⟨fun g3 => ⟨fun _ => ?_, fun n => absurd rfl n⟩, fun n => absurd h6 n⟩⟩
    · rw [if_pos (by omega)] at q
      exact q
    · rw [if_neg (by omega)] at q
      have hp := zprod (x := v + M o 7 - (M o 3 + 1)) (b := M o 6) (m := 2000) (n := 2000) (by omega) (by omega) (by omega) (by omega)
      have hd := td (b := M o 7) hp.1
      refine ⟨by unfold zI; omega, by omega, by unfold zI; omega, by unfold zI; omega, ?_⟩
      rw [Int.zero_add]
      exact q
  · refine B_Column_arcBehind_13 hsl ⟨fun n => absurd n (by decide), fun _ => ⟨hk, ?_⟩⟩
    refine B_Column_arcBehind_29 hsl ⟨fun n => absurd n (by decide), fun _ => ⟨hk, ?_⟩⟩
    refine B_Column_arcBehind_45 hsl ⟨by unfold zI; omega, fun n => absurd n (by decide), fun _ => ⟨hk, ?_⟩⟩
    rw [if_pos (by omega)] at q
    refine B_Column_arcBehind_67 hsl ⟨by unfold zI; omega, fun g2 => ⟨by unfold zI; omega, ?_⟩, fun g2 => ⟨fun g3 => ⟨fun n => absurd n (by decide), fun _ => ?_⟩, fun n => absurd h4 n⟩⟩
    · rw [if_pos (by omega)] at q
      exact q
    · rw [if_neg (by omega)] at q
      have hp := zprod (x := v + M o 6 - M o 8) (b := M o 7) (m := 2000) (n := 2000) (by omega) (by omega) (by omega) (by omega)
      have hd := td (b := M o 6) hp.1
      exact ⟨hk, by unfold zI; omega, by omega, by unfold zI; omega, by unfold zI; omega, q⟩
/-- what a line's own move can change -/
def zPLn (l : Int) : Int → Int → Prop := fun a k => a = l ∧ (k = 1 ∨ k = 2) ∨ a = l + 1
theorem c_moveZig {G : zG} {h sl : Nat} (hsl : 1 ≤ sl) {t l c d n : Int} {L : Int → Int} {M : zM} {Q : Int → zM → Prop} (ht : zK t = (8, 0)) (hk : zK l = (4, 0)) (c0 : 0 ≤ c) (c8 : c < 8) (hc : c < n) (hn : n ≤ 8) (hl : zLc n L M l) (hd : -1000 ≤ d ∧ d ≤ 1000) (hb : -1000 ≤ M (t + 7 + 2 * c) 2 ∧ M (t + 7 + 2 * c) 2 ≤ 1000 ∧ -1000 ≤ M (t + 7 + 2 * c) 3 ∧ M (t + 7 + 2 * c) 3 ≤ 1000) (hne : t + 7 + 2 * c ≠ l) (hne2 : t + 7 + 2 * c ≠ l + 1) (hv : -1000000 ≤ L (1 + c) ∧ L (1 + c) ≤ 1000000)
    (q : ∀ M', zSm (zPLn l) M M' → zLc n (zzg (M (t + 7 + 2 * c) 2) (M (t + 7 + 2 * c) 3) d L c) M' l → Q 0 M') : zCt G (h + 1) sl 0 0 y_Tablet_moveZig [(2, t), (2, l), (0, c), (0, d)] M Q := by
  have hval := (hl.2.2 c c0 hc).1
  have hway := (hl.2.2 c c0 hc).2
  have hkc := (zs_cols ht c0 c8).2
  have fin : ∀ v, v = zzv L c d → zX G (y_Tablet_moveZig, h + 1, sl) (0, 0, 0, 0) 35 [(1, (2, l)), (2, (0, c)), (4, (2, (t + 7 + 2 * c)))] [(0, v)] M Q := fun v e => by
    have hzz : zzv L c d = L (1 + c) + d ∨ zzv L c d = L (1 + c) - d := by
      unfold zzv
      split
      · exact Or.inl rfl
      · exact Or.inr rfl
    unfold zzg at q
    rw [← e] at q hzz
    have g1 : ∀ w, zSm (zPLn l) M (zwr M l 2 w) := fun w => (zSm.refl _ M).wr (by unfold zPLn; omega)
    refine B_Tablet_moveZig_35 hsl ⟨hkc, fun g => ⟨fun g2 => ⟨hk, ⟨c0, c8⟩, ?_⟩, fun g2 => ⟨by unfold zI; omega, by unfold zI; omega, hk, c_go hsl hk hl hn c0 c8 (Or.inr rfl) (fun w hw => ⟨⟨c0, c8⟩, ?_⟩)⟩⟩, fun g => ⟨by unfold zI; omega, by unfold zI; omega, hk, c_go hsl hk hl hn c0 c8 (Or.inl rfl) (fun w hw => ⟨⟨c0, c8⟩, ?_⟩)⟩⟩
    · rw [if_neg (by omega), if_neg (by omega)] at q
      exact q _ ((zSm.refl _ M).wr (Or.inr rfl)) (hl.val c8 c0)
    · rw [if_neg (by omega), if_pos (by omega)] at q
      exact q _ ((g1 w).wr (Or.inr rfl)) (hw.val c8 c0)
    · rw [if_pos (by omega)] at q
      exact q _ ((g1 w).wr (Or.inr rfl)) (hw.val c8 c0)
  refine E_Tablet_moveZig hsl ⟨ht, ⟨c0, c8⟩, hk, c_goesUp hsl hk hl.2.1 c0 c8 ⟨fun g => ⟨?_, fin _ ?_⟩, fun g => ⟨?_, fin _ ?_⟩⟩⟩
  · rw [hval]; unfold zI; omega
  · rw [hval]; unfold zzv; rw [if_neg (by omega)]
  · rw [hval]; unfold zI; omega
  · rw [hval]; unfold zzv; rw [if_pos (by have := zb_01 hl.2.1.1 hl.2.1.2 c0 c8; omega)]
