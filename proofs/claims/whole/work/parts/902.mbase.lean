/-! THE MODEL: its clock and lines (zMk), what asks about them. -/
def zMk (T : zTb) (L : Int → Int) (M : zM) : Prop := zTm T M ∧ zLm (T.1 8 0) L M ∧ zTru T 1000 M
def zdMk : Int → Int → Prop := fun a k => a = 125 ∧ k = 52 ∨ a = 158 ∧ (k = 2 ∨ k = 3) ∨ a = 160 ∧ 56 ≤ k ∨ a = 161 ∧ 9 ≤ k ∨ a = 162 ∧ 9 ≤ k ∨ a = 163 ∧ 1600 ≤ k ∨ a = 164 ∧ 0 ≤ k ∧ k ≤ 16 ∨ a = 165 ∨ a = 166
theorem zSg_fr {M M' : zM} {a j : Int} (e : ∀ i, j ≤ i → M' a i = M a i) : ∀ {cs : List Int} {i : Int}, j ≤ i → zSg M a i cs → zSg M' a i cs
  | [], _, _, _ => trivial
  | _ :: _, _, hj, h => ⟨by rw [e _ hj]; exact h.1, zSg_fr e (by omega) h.2⟩
theorem zTmC.frG {T : zTb} {M M' : zM} {c : Int} (c0 : 0 ≤ c) (e : ∀ a k, zdMk a k → M' a k = M a k) (h : zTmC T M c) : zTmC T M' c := by
  obtain ⟨a, b, d, f⟩ := h
  unfold zTmC
  rw [e 161 _ (by unfold zdMk; omega), e 162 _ (by unfold zdMk; omega)]
  exact ⟨a, b, d, zSg_fr (j := 1600) (fun j hj => e 163 j (by unfold zdMk; omega)) (by omega) f⟩
theorem zTm1.frG {T : zTb} {M M' : zM} {c : Int} (c0 : 0 ≤ c) (e : ∀ a k, zdMk a k → M' a k = M a k) (h : zTm1 T M c) : zTm1 T M' c := by
  unfold zTm1 at h ⊢
  rw [e 160 _ (by unfold zdMk; omega), e 160 _ (by unfold zdMk; omega), e 160 _ (by unfold zdMk; omega), e 160 _ (by unfold zdMk; omega), e 160 _ (by unfold zdMk; omega), e 160 _ (by unfold zdMk; omega), e 160 _ (by unfold zdMk; omega)]
  exact ⟨h.1, h.2.1, h.2.2.1, h.2.2.2.1, h.2.2.2.2.1, h.2.2.2.2.2.1, h.2.2.2.2.2.2.1, fun g => (h.2.2.2.2.2.2.2 g).frG c0 e⟩
theorem zTm.frG {T : zTb} {M M' : zM} (e : ∀ a k, zdMk a k → M' a k = M a k) (h : zTm T M) : zTm T M' := by
  obtain ⟨a, b, d, f, g⟩ := h
  unfold zTm
  rw [e 158 2 (by unfold zdMk; omega), e 158 3 (by unfold zdMk; omega), e 125 52 (by unfold zdMk; omega)]
  exact ⟨a, b, d, fun c h0 hc => (f c h0 hc).frG h0 e, fun q => (g q).frG (by decide) e⟩
theorem zMk.fr {T : zTb} {L : Int → Int} {M M' : zM} (hT : zTok T) (e : ∀ a k, zdMk a k → M' a k = M a k) (h : zMk T L M) : zMk T L M' := by
  have hn8 := hT.2.1
  refine ⟨h.1.frG e, ⟨by rw [e _ _ (by unfold zdMk; omega)]; exact h.2.1.1, fun c c0 cn => by rw [e _ _ (by unfold zdMk; omega), e _ _ (by unfold zdMk; omega)]; exact h.2.1.2 c c0 cn⟩, fun k hk c c0 cn => by rw [e _ _ (by unfold zdMk; omega), e _ _ (by unfold zdMk; omega)]; exact h.2.2 k hk c c0 cn⟩
theorem zMk.frB {T : zTb} {L : Int → Int} {M M' : zM} (hT : zTok T) (hM : zSm zPB M M') (h : zMk T L M) : zMk T L M' := h.fr hT (fun a k p => hM a k (by unfold zdMk at p; unfold zPB; omega))
theorem zPS_PB {M M' : zM} (h : zSm zPS M M') : zSm zPB M M' := h.mono (fun a k p => by unfold zPS at p; unfold zPB; omega)
theorem c_isIn {G : zG} {h sl : Nat} (hsl : 2 ≤ sl) {x lo hi : Int} {M : zM} {Q : Int → zM → Prop} (q1 : lo ≤ x → x ≤ hi → Q 1 M) (q0 : ¬ (lo ≤ x ∧ x ≤ hi) → Q 0 M) : zCt G h sl 0 0 y_Md_isIn [(1, x), (1, lo), (1, hi)] M Q :=
  E_Md_isIn hsl ⟨fun g => q0 (by omega), fun g => ⟨fun g2 => q0 (by omega), fun g2 => q1 (by omega) (by omega)⟩⟩
theorem c_isColM {G : zG} {h sl : Nat} (hsl : 2 ≤ sl) {T : zTb} {c : Int} {M : zM} {Q : Int → zM → Prop} (hT : zTok T) (hm : zTm T M) (q1 : 0 ≤ c → c < T.1 8 0 → Q 1 M) (q0 : ¬ (0 ≤ c ∧ c < T.1 8 0) → Q 0 M) : zCt G (h + 1) sl 0 0 y_Md_isColumn [(2, 125), (1, c)] M Q := by
  have h0 := hT.1
  have h8 := hT.2.1
  refine E_Md_isColumn hsl (E_Md_columnMany hsl ?_)
  rw [hm.two]
  exact ⟨by unfold zI; omega, c_isIn hsl (fun a b => q1 a (by omega)) (fun g => q0 (by omega))⟩
theorem c_isAheadM {G : zG} {h sl : Nat} (hsl : 2 ≤ sl) {n lo hi L0 : Int} {M : zM} {Q : Int → zM → Prop} (hl : M 164 0 = L0) (h0 : 0 ≤ L0) (h9 : L0 ≤ 999) (hh : -1000000 ≤ lo ∧ hi ≤ 1000000) (q1 : lo ≤ n → n ≤ hi → L0 + n ≤ 999 → Q 1 M) (q0 : ¬ (lo ≤ n ∧ n ≤ hi ∧ L0 + n ≤ 999) → Q 0 M) : zCt G (h + 1) sl 0 0 y_Md_isAhead [(2, 125), (1, n), (0, lo), (0, hi)] M Q := by
  refine E_Md_isAhead hsl (c_isIn hsl (fun a b => ⟨fun g => absurd g (by decide), fun _ => ?_⟩) (fun g => ⟨fun _ => q0 (by omega), fun g => absurd rfl g⟩))
  rw [hl]
  exact ⟨by unfold zL; omega, fun g => q0 (by omega), fun g => q1 a b (by omega)⟩
theorem c_trueOf {G : zG} {h sl : Nat} (hsl : 2 ≤ sl) {T : zTb} {k c : Int} {M : zM} {Q : Int → zM → Prop} (hT : zTok T) (ht : zTru T 1000 M) (k0 : 0 ≤ k) (k9 : k ≤ 999) (c0 : 0 ≤ c) (cn : c < T.1 8 0) (q : Q (ztr T k.toNat (1 + c)) M) : zCt G h sl 0 0 y_Md_trueOf [(2, 125), (0, k), (0, c)] M Q := by
  have h8 := hT.2.1
  have := (ht k.toNat (by omega) c c0 cn).1
  rw [show ((k.toNat : Nat) : Int) = k from by omega] at this
  refine E_Md_trueOf hsl ⟨by unfold zI; omega, by unfold zI; omega, by omega, ?_⟩
  rw [this]
  exact q
theorem c_leastOf {G : zG} {h sl : Nat} (hsl : 2 ≤ sl) {T : zTb} {c : Int} {M : zM} {Q : Int → zM → Prop} (hT : zTok T) (hm : zTm T M) (c0 : 0 ≤ c) (cn : c < T.1 8 0) (q : Q (T.1 c 1) M) : zCt G (h + 2) sl 0 0 y_Md_leastOf [(2, 125), (0, c)] M Q := by
  have h8 := hT.2.1
  have hk := hT.2.2.2.2.2.2.2 c c0 cn
  obtain ⟨t0, t1, _⟩ := hm.2.2.2.1 c c0 cn
  unfold zTok1 at hk
  refine E_Md_leastOf hsl (c_sortOf hsl c0 (by omega) ?_)
  rw [t0]
  refine ⟨fun g => ?_, fun g => c_fieldOf hsl c0 (by omega) (by decide) (by decide) ?_⟩
  · rw [show T.1 c 1 = 0 from by omega] at q; exact q
  · rw [t1, if_neg (by omega)]; exact q
theorem c_mostOf {G : zG} {h sl : Nat} (hsl : 2 ≤ sl) {T : zTb} {c : Int} {M : zM} {Q : Int → zM → Prop} (hT : zTok T) (hm : zTm T M) (c0 : 0 ≤ c) (cn : c < T.1 8 0) (q : Q (T.1 c 2) M) : zCt G (h + 2) sl 0 0 y_Md_mostOf [(2, 125), (0, c)] M Q := by
  have h8 := hT.2.1
  have hk := hT.2.2.2.2.2.2.2 c c0 cn
  obtain ⟨t0, t1, t2, _⟩ := hm.2.2.2.1 c c0 cn
  unfold zTok1 at hk
  refine E_Md_mostOf hsl (c_sortOf hsl c0 (by omega) ?_)
  rw [t0]
  refine ⟨fun g => c_sortOf hsl c0 (by omega) ?_, fun g => c_fieldOf hsl c0 (by omega) (by decide) (by decide) ?_⟩
  · rw [t0]
    refine ⟨fun g2 => c_fieldOf hsl c0 (by omega) (by decide) (by decide) ?_, fun g2 => ?_⟩
    · rw [t2, if_pos (by omega)]
      refine ⟨by unfold zI; omega, ?_⟩
      rw [show T.1 c 2 + 1 - 1 = T.1 c 2 from by omega]; exact q
    · rw [show T.1 c 2 = 0 from by omega] at q; exact q
  · rw [t2, if_neg (by omega)]; exact q
