/-! PARSER, the class: codes as they come. -/
def zWr (r : Int) (w : List Int) : Prop := ∃ i : Nat, r = -2 - 2 * (i : Int) ∧ zWs i w
theorem zWr_of {r : Int} {w : List Int} (i : Nat) (h : (decide (r = -2 - 2 * (i : Int)) && (decide (i < zstr.length) && (decide (zsl i = w.length) && decide (∀ j, j < w.length → zsb i j = w.getD j 0)))) = true) : zWr r w := by
  simp only [Bool.and_eq_true, decide_eq_true_eq] at h
  exact ⟨i, h.1, h.2.1, h.2.2.1, h.2.2.2⟩
theorem zr_not : zWr (-6) zo_not := zWr_of 2 (by decide +kernel)
theorem zr_all : zWr (-8) zo_all := zWr_of 3 (by decide +kernel)
theorem zr_min : zWr (-10) zo_min := zWr_of 4 (by decide +kernel)
theorem zr_max : zWr (-12) zo_max := zWr_of 5 (by decide +kernel)
theorem zr_ahead : zWr (-14) zo_ahead := zWr_of 6 (by decide +kernel)
theorem zr_col : zWr (-16) zo_col := zWr_of 7 (by decide +kernel)
theorem zr_number : zWr (-18) zo_number := zWr_of 8 (by decide +kernel)
theorem zr_sort : zWr (-20) zo_sort := zWr_of 9 (by decide +kernel)
theorem zr_value : zWr (-22) zo_value := zWr_of 10 (by decide +kernel)
theorem zr_drift : zWr (-24) zo_drift := zWr_of 11 (by decide +kernel)
theorem zr_line : zWr (-26) zo_line := zWr_of 12 (by decide +kernel)
theorem zr_prev : zWr (-28) zo_prev := zWr_of 13 (by decide +kernel)
theorem zr_and : zWr (-30) zo_and := zWr_of 14 (by decide +kernel)
theorem zr_or : zWr (-32) zo_or := zWr_of 15 (by decide +kernel)
theorem c_isW {G : zG} {h sl : Nat} (hsl : 1 ≤ sl) {B : Int → Int} {n e : Nat} {r : Int} {w : List Int} {M : zM} {Q : Int → zM → Prop} (hn : n ≤ 1600) (he : e ≤ n) (hr : zRd B n e M) (hw : zWr r w) (q1 : zwrd B n e w = true → Q 1 M) (q0 : ¬ zwrd B n e w = true → Q 0 M) : zCt G (h + 4) sl 0 0 y_Reader_isWord [(2, 72), (2, r)] M Q := by
  obtain ⟨i, rfl, hi⟩ := hw
  refine c_isWord hsl hn he hr hi ?_
  by_cases c : zwrd B n e w = true
  · rw [if_pos c]; exact q1 c
  · rw [if_neg c]; exact q0 c
theorem c_tryW {G : zG} {h sl : Nat} (hsl : 1 ≤ sl) {B : Int → Int} {n e : Nat} {r : Int} {w : List Int} {M : zM} {Q : Int → zM → Prop} (hn : n ≤ 1600) (he : e ≤ n) (hr : zRd B n e M) (hw : zWr r w) (q1 : zwrd B n e w = true → ∀ M', zSm zPrs M M' → zRd B n (zto B n e) M' → Q 1 M') (q0 : ¬ zwrd B n e w = true → Q 0 M) : zCt G (h + 5) sl 0 0 y_Reader_tryWord [(2, 72), (2, r)] M Q := by
  obtain ⟨i, rfl, hi⟩ := hw
  exact c_tryWord hsl hn he hr hi q1 q0
theorem c_takeW {G : zG} {h sl : Nat} (hsl : 1 ≤ sl) {B : Int → Int} {n e : Nat} {r : Int} {w : List Int} {M : zM} {Q : Int → zM → Prop} (hn : n ≤ 1600) (he : e ≤ n) (hr : zRd B n e M) (hw : zWr r w) (q1 : zwrd B n e w = true → ∀ M', zSm zPrs M M' → zRd B n (zto B n e) M' → Q 1 M') (q0 : ¬ zwrd B n e w = true → ∀ M', zSm zPrs M M' → zRF 1 (zfr B n e : Nat) M' → Q 0 M') : zCt G (h + 5) sl 0 0 y_Reader_takeWord [(2, 72), (2, r)] M Q := by
  obtain ⟨i, rfl, hi⟩ := hw
  exact c_takeWord hsl hn he hr hi q1 q0
theorem c_isS {G : zG} {h sl : Nat} (hsl : 1 ≤ sl) {B : Int → Int} {n e : Nat} {x : Int} {M : zM} {Q : Int → zM → Prop} (hn : n ≤ 1600) (he : e ≤ n) (hr : zRd B n e M) (q1 : zsg B n e x = true → Q 1 M) (q0 : ¬ zsg B n e x = true → Q 0 M) : zCt G h sl 0 0 y_Reader_isSign [(2, 72), (0, x)] M Q := by
  refine c_isSign hsl hn he hr ?_
  by_cases c : zsg B n e x = true
  · rw [if_pos c]; exact q1 c
  · rw [if_neg c]; exact q0 c
theorem zSeg_ap {q : Bool} {M : zM} {a v : Int} : ∀ {cs : List Int} {i : Int}, zSeg q M a i cs → M a (i + cs.length) = zcc q v → zSeg q M a i (cs ++ [v])
  | [], i, _, h => ⟨by rw [← h]; simp, trivial⟩
  | x :: r, i, h, g => ⟨h.1, zSeg_ap h.2 (by rw [show i + 1 + (r.length : Int) = i + ((x :: r).length : Int) from by simp only [List.length_cons]; omega]; exact g)⟩
theorem zSeg_fr {q : Bool} {M M' : zM} {a j : Int} : ∀ {cs : List Int} {i : Int}, (∀ k, k < i + cs.length → M' a k = M a k) → zSeg q M a i cs → zSeg q M' a i cs
  | [], _, _, _ => trivial
  | x :: r, i, e, h => ⟨by rw [e i (by simp only [List.length_cons]; omega)]; exact h.1, zSeg_fr (j := j) (fun k hk => e k (by simp only [List.length_cons]; omega)) h.2⟩
def zcob (c : Int) : Prop := c = 73 ∨ c = 81 ∨ c = 104
theorem zcob.k {c : Int} (h : zcob c) : zK c = (0, 0) := by
  rcases h with rfl | rfl | rfl <;> decide
/-- the reader at e, its codes C from s on -/
def zRp (md : Int) (T : zTb) (m : Nat) (t c : Int) (B : Int → Int) (n s e : Nat) (C : List Int) (M : zM) : Prop :=
  zRd B n e M ∧ (M 72 6 = c ∧ M 72 7 = (if md = 2 then 1 else 0) ∧ M 72 8 = (if md = 0 then 1 else 0)) ∧ (M c 2 = (s : Int) + (C.length : Int) ∧ zSeg (decide (md = 2)) M (c + 1) s C) ∧ (¬ md = 2 → zNc T m t M ∧ c = t + 2)
def zPrp (c : Int) : Int → Int → Prop := fun a k => a = 72 ∧ (k = 3 ∨ k = 4 ∨ 9 ≤ k ∧ k ≤ 11) ∨ a = c ∧ k = 2 ∨ a = c + 1
theorem zPrs_rp {M M' : zM} {c : Int} (h : zSm zPrs M M') : zSm (zPrp c) M M' := h.mono (fun a k p => by unfold zPrs at p; unfold zPrp; omega)
theorem zNc.fr {T : zTb} {m : Nat} {t c : Int} {M M' : zM} (hm : m ≤ 8) (hc : c = t + 2) (e : zSm (zPrp c) M M') (h : zNc T m t M) : zNc T m t M' := by
  obtain ⟨h1, h2, h3, h4⟩ := h
  exact ⟨h1, by rw [e _ _ (by unfold zPrp; omega)]; exact h2, by rw [e _ _ (by unfold zPrp; omega)]; exact h3, fun a k p q r s => by rw [e _ _ (by unfold zPrp; omega)]; exact h4 a k p q r s⟩
theorem zRp.mv {md : Int} {T : zTb} {m : Nat} {t c : Int} {B : Int → Int} {n s e e' : Nat} {C : List Int} {M M' : zM} (hm : m ≤ 8) (hc : zcob c) (h : zRp md T m t c B n s e C M) (hM : zSm zPrs M M') (hr : zRd B n e' M') : zRp md T m t c B n s e' C M' := by
  obtain ⟨h1, ⟨h2, h3, h4⟩, ⟨h5, h6⟩, h7⟩ := h
  unfold zcob at hc
  exact ⟨hr, ⟨by rw [hM _ _ (by unfold zPrs; omega)]; exact h2, by rw [hM _ _ (by unfold zPrs; omega)]; exact h3, by rw [hM _ _ (by unfold zPrs; omega)]; exact h4⟩, ⟨by rw [hM _ _ (by unfold zPrs; omega)]; exact h5, zSeg_eq (fun j => hM _ _ (by unfold zPrs; omega)) h6⟩, fun g => ⟨(h7 g).1.fr hm (h7 g).2 (zPrs_rp hM), (h7 g).2⟩⟩
theorem c_add {G : zG} {h sl : Nat} (hsl : 1 ≤ sl) {md : Int} {T : zTb} {m : Nat} {t c : Int} {B : Int → Int} {n s e : Nat} {C : List Int} {v l1 l2 : Int} {M : zM} {Q : Int → zM → Prop} (hm : m ≤ 8) (hc : zcob c) (hl : s + C.length < 1600) (hr : zRp md T m t c B n s e C M) (hv : zcc (decide (md = 2)) v = l2 * 16 + l1) (h1 : 0 ≤ l1 ∧ l1 < 16) (h2 : 0 ≤ l2 ∧ l2 ≤ 10000) (q : ∀ M', zSm (zPrp c) M M' → zRp md T m t c B n s e (C ++ [v]) M' → Q 0 M') : zCt G h sl 0 0 y_Code_add [(2, c), (0, l1), (0, l2)] M Q := by
  obtain ⟨a1, a2, ⟨a3, a4⟩, a5⟩ := hr
  have hk := hc.k
  unfold zcob at hc
  refine E_Code_add hsl ⟨hk, fun g => absurd g (by omega), fun _ => ?_⟩
  rw [zwr_o _ (by omega), a3]
  have sM : zSm (zPrp c) M (zwr (zwr M (c + 1) ((s : Int) + (C.length : Int)) (l2 * 16 + l1)) c 2 ((s : Int) + (C.length : Int) + 1)) := ((zSm.refl _ M).wr (Or.inr (Or.inr rfl))).wr (Or.inr (Or.inl ⟨rfl, rfl⟩))
  refine ⟨by unfold zI; omega, by unfold zI; omega, by omega, by unfold zI; omega, q _ sM ⟨?_, ?_, ⟨?_, zSeg_ap ?_ ?_⟩, fun g => ⟨(a5 g).1.fr hm (a5 g).2 sM, (a5 g).2⟩⟩⟩
  · exact a1.fr (fun a k p => by rw [zwr_i, if_neg (by omega), zwr_i, if_neg (by omega)])
  · rw [zwr_o _ (by omega), zwr_o _ (by omega), zwr_o _ (by omega), zwr_o _ (by omega), zwr_o _ (by omega), zwr_o _ (by omega)]; exact a2
  · rw [zwr_s]; simp only [List.length_append, List.length_cons, List.length_nil]; omega
  · exact zSeg_fr (j := 0) (fun k hk => by rw [zwr_o _ (by omega), zwr_k _ (by omega)]) a4
  · rw [zwr_o _ (by omega), zwr_s, hv]
/-- a code behind a fault -/
theorem c_addF {G : zG} {h sl : Nat} (hsl : 1 ≤ sl) {c l1 l2 : Int} {M : zM} {Q : Int → zM → Prop} (hc : zcob c) (h0 : 0 ≤ M c 2) (h1 : 0 ≤ l1 ∧ l1 < 16) (h2 : -1 ≤ l2 ∧ l2 ≤ 10000) (q : ∀ M', zSm (zPrp c) M M' → (∀ k, M' 72 k = M 72 k) → 0 ≤ M' c 2 → Q 0 M') : zCt G h sl 0 0 y_Code_add [(2, c), (0, l1), (0, l2)] M Q := by
  have hk := hc.k
  unfold zcob at hc
  refine E_Code_add hsl ⟨hk, fun g => q M (zSm.refl _ M) (fun _ => rfl) h0, fun g => ?_⟩
  rw [zwr_o _ (by omega)]
  exact ⟨by unfold zI; omega, by unfold zI; omega, by omega, by unfold zI; omega, q _ (((zSm.refl _ M).wr (Or.inr (Or.inr rfl))).wr (Or.inr (Or.inl ⟨rfl, rfl⟩))) (fun k => by rw [zwr_o _ (by omega), zwr_o _ (by omega)]) (by rw [zwr_s]; omega)⟩
