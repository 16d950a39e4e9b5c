/-! TABLETS, the class: the reader at e, what the tablet t tells so far: T, its codes C. -/
theorem zSeg_mid {q : Bool} {M M' : zM} {a : Int} : ∀ {cs : List Int} {i : Int}, (∀ k, i ≤ k → k < i + cs.length → M' a k = M a k) → zSeg q M a i cs → zSeg q M' a i cs
  | [], _, _, _ => trivial
  | x :: r, i, e, h => ⟨by rw [e i (by omega) (by simp only [List.length_cons]; omega)]; exact h.1, zSeg_mid (fun k h1 h2 => e k (by omega) (by simp only [List.length_cons]; omega)) h.2⟩
theorem zSeg_get {q : Bool} {M : zM} {a : Int} : ∀ {cs : List Int} {i : Int}, zSeg q M a i cs → ∀ j : Nat, j < cs.length → M a (i + j) = zcc q (cs.getD j 0)
  | [], _, _, j, hj => absurd hj (by simp)
  | x :: r, i, h, 0, _ => by rw [show i + ((0 : Nat) : Int) = i from by omega]; exact h.1
  | x :: r, i, h, j + 1, hj => by
    have := zSeg_get h.2 j (by simp only [List.length_cons] at hj; omega)
    rw [show i + ((j + 1 : Nat) : Int) = i + 1 + (j : Int) from by omega]
    exact this
theorem zSeg_split {q : Bool} {M : zM} {a : Int} : ∀ {C D : List Int} {i : Int}, zSeg q M a i (C ++ D) → zSeg q M a i C ∧ zSeg q M a (i + C.length) D
  | [], D, i, h => ⟨trivial, by rw [show i + (([] : List Int).length : Int) = i from by simp]; exact h⟩
  | x :: r, D, i, h => by
    have := zSeg_split (C := r) (D := D) h.2
    refine ⟨⟨h.1, this.1⟩, ?_⟩
    rw [show i + ((x :: r).length : Int) = i + 1 + (r.length : Int) from by simp only [List.length_cons]; omega]
    exact this.2
theorem zSeg_same {q : Bool} {M M' : zM} {a : Int} {C : List Int} (h : zSeg q M a 0 C) (h' : zSeg q M' a 0 C) : ∀ k : Int, 0 ≤ k → k < C.length → M' a k = M a k := fun k h0 hk => by
  have e : k = 0 + ((k.toNat : Nat) : Int) := by omega
  rw [e, zSeg_get h k.toNat (by omega), zSeg_get h' k.toNat (by omega)]
def zRt (T : zTb) (t : Int) (C : List Int) (B : Int → Int) (n e : Nat) (M : zM) : Prop :=
  zRd B n e M ∧ (M 72 5 = t ∧ M 72 6 = t + 2 ∧ M 72 7 = 0 ∧ M 72 8 = 0) ∧ (t = 79 ∨ t = 102) ∧ (M (t + 2) 2 = (C.length : Nat) ∧ zSeg false M (t + 3) 0 C) ∧ zTc T M t
def zPrt (t : Int) : Int → Int → Prop := fun a k => a = 72 ∧ 3 ≤ k ∨ t ≤ a ∧ a ≤ t + 22
theorem zRt.tk {T : zTb} {t : Int} {C : List Int} {B : Int → Int} {n e : Nat} {M : zM} (h : zRt T t C B n e M) : zK t = (8, 0) := by
  rcases h.2.2.1 with a | a <;> rw [a] <;> decide
theorem zRt.co {T : zTb} {t : Int} {C : List Int} {B : Int → Int} {n e : Nat} {M : zM} (h : zRt T t C B n e M) : zcob (t + 2) := by
  have := h.2.2.1
  unfold zcob
  omega
theorem zRt.nc {T : zTb} {t : Int} {C : List Int} {B : Int → Int} {n e : Nat} {M : zM} (hT : zTok T) (h : zRt T t C B n e M) : zNc T (T.1 8 0).toNat t M := by
  have h0 := hT.1
  refine ⟨h.2.2.1, h.2.1.1, ?_, fun c k c0 cm k0 k6 => (h.2.2.2.2.2.1 c c0 (by omega)).2.2 k k0 k6⟩
  rw [h.2.2.2.2.1.1]; omega
theorem zPrs_rt {M M' : zM} {t : Int} (h : zSm zPrs M M') : zSm (zPrt t) M M' := h.mono (fun a k p => by unfold zPrs at p; unfold zPrt; omega)
theorem zPrp_rt {M M' : zM} {t : Int} (h : zSm (zPrp (t + 2)) M M') : zSm (zPrt t) M M' := h.mono (fun a k p => by unfold zPrp at p; unfold zPrt; omega)
/-- codes stay, though T and the store change elsewhere -/
theorem zTcC.tr {T T' : zTb} {M M' : zM} {t c f e : Int} (e2 : T'.2 c = T.2 c) (g : M (t + 2) 2 ≤ M' (t + 2) 2) (s : ∀ k, 0 ≤ k → k < M (t + 2) 2 → M' (t + 3) k = M (t + 3) k) (h : zTcC T M t c f e) : zTcC T' M' t c f e := by
  unfold zTcC at h ⊢
  rw [e2]
  exact ⟨h.1, h.2.1, by omega, zSeg_mid (fun k h1 h2 => s k (by omega) (by omega)) h.2.2.2⟩
theorem zTc1.tr {T T' : zTb} {M M' : zM} {t c : Int} (e1 : ∀ k, T'.1 c k = T.1 c k) (e2 : T'.2 c = T.2 c) (f : ∀ k, M' (t + 7 + 2 * c) k = M (t + 7 + 2 * c) k) (f2 : ∀ k, M' (t + 7 + 2 * c + 1) k = M (t + 7 + 2 * c + 1) k) (g : M (t + 2) 2 ≤ M' (t + 2) 2) (s : ∀ k, 0 ≤ k → k < M (t + 2) 2 → M' (t + 3) k = M (t + 3) k) (h : zTc1 T M t c) : zTc1 T' M' t c := by
  unfold zTc1 at h ⊢
  simp only [f, f2, e1]
  exact ⟨h.1, fun x => (h.2.1 x).tr e2 g s, h.2.2⟩
theorem zRt.mv {T : zTb} {t : Int} {C : List Int} {B : Int → Int} {n e e' : Nat} {M M' : zM} (hT : zTok T) (h : zRt T t C B n e M) (hM : zSm zPrs M M') (hr : zRd B n e' M') : zRt T t C B n e' M' := by
  obtain ⟨a, ⟨b1, b2, b3, b4⟩, ht, ⟨d1, d2⟩, f⟩ := h
  have up : ∀ a k, 73 ≤ a → M' a k = M a k := fun a k ha => hM a k (by unfold zPrs; omega)
  exact ⟨hr, ⟨by rw [hM _ _ (by unfold zPrs; omega)]; exact b1, by rw [hM _ _ (by unfold zPrs; omega)]; exact b2, by rw [hM _ _ (by unfold zPrs; omega)]; exact b3, by rw [hM _ _ (by unfold zPrs; omega)]; exact b4⟩, ht, ⟨by rw [up _ _ (by omega)]; exact d1, zSeg_eq (fun j => up _ _ (by omega)) d2⟩, f.frG hT (fun a k p1 p2 _ _ => up a k (by omega))⟩
theorem zr_slip : zWr (-2) zo_slip := zWr_of 0 (by decide +kernel)
theorem zr_marks : zWr (-4) zo_marks := zWr_of 1 (by decide +kernel)
theorem zr_zig : zWr (-34) zo_zig := zWr_of 16 (by decide +kernel)
theorem zr_arc : zWr (-36) zo_arc := zWr_of 17 (by decide +kernel)
theorem zr_ring : zWr (-38) zo_ring := zWr_of 18 (by decide +kernel)
theorem zr_sum : zWr (-40) zo_sum := zWr_of 19 (by decide +kernel)
theorem c_sortHere {G : zG} {h sl : Nat} (hsl : 1 ≤ sl) {B : Int → Int} {n e : Nat} {M : zM} {Q : Int → zM → Prop} (hn : n ≤ 1600) (he : e ≤ n) (hr : zRd B n e M) (q0 : zsrt B n e = -1 → Q (-1) M) (q1 : ¬ zsrt B n e = -1 → ∀ M', zSm zPrs M M' → zRd B n (zto B n e) M' → Q (zsrt B n e) M') : zCt G (h + 6) sl 0 0 y_Reader_sortHere [(2, 72)] M Q := by
  unfold zsrt at q0 q1
  refine E_Reader_sortHere hsl (c_tryW (h := h) hsl hn he hr zr_zig (fun c M1 h1 g1 => ⟨fun y => absurd y (by decide), fun _ => ?_⟩) (fun c => ⟨fun _ => ?_, fun y => absurd rfl y⟩))
  · rw [if_pos c] at q1; exact q1 (by decide) M1 h1 g1
  rw [if_neg c] at q0 q1
  refine c_tryW (h := h) hsl hn he hr zr_arc (fun c M1 h1 g1 => ⟨fun y => absurd y (by decide), fun _ => ?_⟩) (fun c => ⟨fun _ => ?_, fun y => absurd rfl y⟩)
  · rw [if_pos c] at q1; exact q1 (by decide) M1 h1 g1
  rw [if_neg c] at q0 q1
  refine c_tryW (h := h) hsl hn he hr zr_ring (fun c M1 h1 g1 => ⟨fun y => absurd y (by decide), fun _ => ?_⟩) (fun c => ⟨fun _ => ?_, fun y => absurd rfl y⟩)
  · rw [if_pos c] at q1; exact q1 (by decide) M1 h1 g1
  rw [if_neg c] at q0 q1
  refine c_tryW (h := h) hsl hn he hr zr_sum (fun c M1 h1 g1 => ⟨fun y => absurd y (by decide), fun _ => ?_⟩) (fun c => ⟨fun _ => ?_, fun y => absurd rfl y⟩)
  · rw [if_pos c] at q1; exact q1 (by decide) M1 h1 g1
  rw [if_neg c] at q0
  exact q0 rfl
def zPso (t l : Int) : Int → Int → Prop := fun a k => a = 72 ∧ 3 ≤ k ∧ k ≤ 11 ∧ k ≠ 5 ∧ k ≠ 6 ∧ k ≠ 7 ∨ a = t + 2 ∧ k = 2 ∨ a = t + 3 ∨ a = l ∧ (k = 9 ∨ k = 10)
theorem c_sumOf {G : zG} {h sl : Nat} (hsl : 1 ≤ sl) {T : zTb} {m : Nat} {t l : Int} {C : List Int} {B : Int → Int} {n e : Nat} {M : zM} {Q : Int → zM → Prop} (hn : n ≤ 1600) (hm : m ≤ 8) (he : e ≤ n) (hs : C.length ≤ e) (hl : zK l = (1, 0)) (hlt : t + 7 ≤ l) (hr : zRd B n e M) (e6 : M 72 6 = t + 2) (e7 : M 72 7 = 0) (hN : zNc T m t M) (hC : M (t + 2) 2 = (C.length : Nat) ∧ zSeg false M (t + 3) 0 C)
    (hc : zcob (t + 2)) (qo : ∀ e' D, zsumK 0 T m B n 6 e = .inr (e', D) → ∀ M', zSm (zPso t l) M M' → zRd B n e' M' → M' 72 8 = 0 → (M' (t + 2) 2 = ((C ++ D).length : Nat) ∧ zSeg false M' (t + 3) 0 (C ++ D)) → M' l 9 = (C.length : Nat) → M' l 10 = ((C ++ D).length : Nat) → Q 1 M') (qn : ∀ f p, zsumK 0 T m B n 6 e = .inl (f, p) → ∀ M', zSm (zPso t l) M M' → zRF f p M' → Q 0 M') : zCt G (h + 34) sl 0 0 y_Reader_sumOf [(2, 72), (2, l)] M Q := by
  have ht := hN.1
  refine E_Reader_sumOf hsl ⟨by rw [e6]; exact hc.k, hl, ?_⟩
  rw [e6, hC.1]
  have s1 : zSm (zPso t l) M (zwr (zwr M l 9 ((C.length : Nat) : Int)) 72 8 1) := ((zSm.refl _ M).wr (Or.inr (Or.inr (Or.inr ⟨rfl, Or.inl rfl⟩)))).wr (Or.inl ⟨rfl, by decide⟩)
  have v1 : ∀ a k, ¬ (a = l ∧ k = 9) → ¬ (a = 72 ∧ k = 8) → (zwr (zwr M l 9 ((C.length : Nat) : Int)) 72 8 1) a k = M a k := fun a k p1 p2 => by rw [zwr_i, if_neg p2, zwr_i, if_neg p1]
  have v9 : (zwr (zwr M l 9 ((C.length : Nat) : Int)) 72 8 1) l 9 = (C.length : Nat) := by rw [zwr_o _ (by omega), zwr_s]
  have v8 : (zwr (zwr M l 9 ((C.length : Nat) : Int)) 72 8 1) 72 8 = 1 := zwr_s _ _ _ _
  generalize zwr (zwr M l 9 ((C.length : Nat) : Int)) 72 8 1 = M1 at s1 v1 v9 v8
  have hS := c_sumK (G := G) (sl := sl) (md := 0) (T := T) (m := m) (t := t) (c := t + 2) (B := B) (n := n) (s := 0) hsl hn hm hc 6 (by omega)
  rw [show (6 : Int) - ((6 : Nat) : Int) = 0 from by omega] at hS
  have hr1 : zRp 0 T m t (t + 2) B n 0 e C M1 := by
    refine ⟨hr.fr (fun a k p => v1 a k (by omega) (by omega)), ⟨by rw [v1 _ _ (by omega) (by omega)]; exact e6, by rw [v1 _ _ (by omega) (by omega)]; exact e7, v8⟩, ⟨by rw [v1 _ _ (by omega) (by omega), hC.1, show ((0 : Nat) : Int) + (C.length : Nat) = (C.length : Nat) from by omega], by rw [show t + 2 + 1 = t + 3 from by omega]; exact zSeg_eq (M := M) (fun j => v1 _ _ (by omega) (by omega)) hC.2⟩, fun _ => ⟨⟨ht, by rw [v1 _ _ (by omega) (by omega)]; exact hN.2.1, by rw [v1 _ _ (by omega) (by omega)]; exact hN.2.2.1, fun c k c0 cm k0 k6 => ?_⟩, rfl⟩⟩
    rw [v1 _ _ (by omega) (by omega)]
    exact hN.2.2.2 c k c0 cm k0 k6
  have mp : ∀ {M2 M3 : zM}, zSm (zPrp (t + 2)) M2 M3 → zSm (zPso t l) M2 M3 := fun hh => hh.mono (fun a k p => by unfold zPrp at p; unfold zPso; omega)
  refine hS (h + 33) (by omega) e C M1 _ he (by omega) hr1 (fun e' D hz M2 h2 g2 => ?_) (fun f p hz M2 h2 x2 a6 a2 => ?_)
  · have e62 : (zwr M2 72 8 0) 72 6 = t + 2 := by rw [zwr_k _ (by decide)]; exact g2.2.1.1
    rw [e62]
    refine ⟨hc.k, ?_⟩
    have w2 : (zwr M2 72 8 0) (t + 2) 2 = ((C ++ D).length : Nat) := by rw [zwr_o _ (by omega), g2.2.2.1.1]; omega
    rw [w2]
    have s3 : zSm (zPso t l) M (zwr (zwr M2 72 8 0) l 10 (((C ++ D).length : Nat) : Int)) := ((s1.trans (mp h2)).wr (Or.inl ⟨rfl, by decide⟩)).wr (Or.inr (Or.inr (Or.inr ⟨rfl, Or.inr rfl⟩)))
    have v3 : ∀ a k, ¬ (a = l ∧ k = 10) → ¬ (a = 72 ∧ k = 8) → (zwr (zwr M2 72 8 0) l 10 (((C ++ D).length : Nat) : Int)) a k = M2 a k := fun a k p1 p2 => by rw [zwr_i, if_neg p1, zwr_i, if_neg p2]
    refine qo e' D hz _ s3 (g2.1.fr (fun a k p => v3 a k (by omega) (by omega))) ?_ ⟨?_, ?_⟩ ?_ (zwr_s _ _ _ _)
    · rw [zwr_o _ (by omega), zwr_s]
    · rw [zwr_o _ (by omega)]; exact w2
    · have := g2.2.2.1.2
      rw [show t + 2 + 1 = t + 3 from by omega] at this
      exact zSeg_eq (fun j => v3 _ _ (by omega) (by omega)) this
    · rw [v3 _ _ (by omega) (by omega), h2 _ _ (by unfold zPrp; omega)]; exact v9
  · have e62 : (zwr M2 72 8 0) 72 6 = t + 2 := by rw [zwr_k _ (by decide)]; exact a6
    rw [e62]
    refine ⟨hc.k, qn f p hz _ (((s1.trans (mp h2)).wr (Or.inl ⟨rfl, by decide⟩)).wr (Or.inr (Or.inr (Or.inr ⟨rfl, Or.inr rfl⟩)))) ⟨?_, ?_⟩⟩
    · rw [zwr_o _ (by omega), zwr_k _ (by decide)]; exact x2.1
    · rw [zwr_o _ (by omega), zwr_k _ (by decide)]; exact x2.2
/-- a column more is told -/
theorem zRt_new {T : zTb} {t : Int} {C D : List Int} {f : Int → Int} {B : Int → Int} {n e e' : Nat} {M M' : zM} (hT : zTok T) (h8 : T.1 8 0 < 8) (h : zRt T t C B n e M) (hr : zRd B n e' M') (h5 : M' 72 5 = t ∧ M' 72 6 = t + 2 ∧ M' 72 7 = 0 ∧ M' 72 8 = 0) (fr : ∀ a k, a = t ∧ 2 ≤ k ∧ k ≤ 7 ∨ t + 7 ≤ a ∧ a < t + 7 + 2 * T.1 8 0 → M' a k = M a k)
    (hC : M' (t + 2) 2 = ((C ++ D).length : Nat) ∧ zSeg false M' (t + 3) 0 (C ++ D)) (hle : (C ++ D).length ≤ 1600) (hf : M' (t + 7 + 2 * T.1 8 0) 1 = f 0 ∧ M' (t + 7 + 2 * T.1 8 0) 2 = f 1 ∧ M' (t + 7 + 2 * T.1 8 0) 3 = f 2 ∧ M' (t + 7 + 2 * T.1 8 0) 4 = f 3 ∧ M' (t + 7 + 2 * T.1 8 0) 5 = f 4 ∧ M' (t + 7 + 2 * T.1 8 0) 6 = f 5 ∧ M' (t + 7 + 2 * T.1 8 0) 7 = f 6 ∧ M' (t + 7 + 2 * T.1 8 0) 8 = f 7)
    (hcd : 2 ≤ f 0 → M' (t + 7 + 2 * T.1 8 0) 9 = (C.length : Nat) ∧ M' (t + 7 + 2 * T.1 8 0) 10 = ((C ++ D).length : Nat)) (hl : ∀ k, 0 ≤ k → k < 6 → M' (t + 7 + 2 * T.1 8 0 + 1) k = f (10 + k)) : zRt (zset (zadd T (T.1 8 0) f D) 8 0 (T.1 8 0 + 1)) t (C ++ D) B n e' (zwr M' t 2 (M' t 2 + 1)) := by
  have h0 := hT.1
  obtain ⟨a, ⟨b1, b2, b3, b4⟩, ht, ⟨d1, d2⟩, ⟨⟨c2, c3, c4, c5, c6⟩, cc, cm⟩⟩ := h
  have v : ∀ a k, ¬ (a = t ∧ k = 2) → (zwr M' t 2 (M' t 2 + 1)) a k = M' a k := fun a k p => by rw [zwr_i, if_neg p]
  have v2 : (zwr M' t 2 (M' t 2 + 1)) t 2 = T.1 8 0 + 1 := by rw [zwr_s, fr t 2 (by omega), c2]
  generalize zwr M' t 2 (M' t 2 + 1) = M2 at v v2
  generalize eT : zset (zadd T (T.1 8 0) f D) 8 0 (T.1 8 0 + 1) = T2
  have ne : ∀ a b, a ≠ T.1 8 0 → ¬ (a = 8 ∧ b = 0) → T2.1 a b = T.1 a b := fun a b p1 p2 => by rw [← eT]; exact znw_o _ _ _ _ p1 p2
  have n1 : T2.1 8 0 = T.1 8 0 + 1 := by rw [← eT]; exact znw_s _ _ _ _ _
  have n2 : ∀ a, a ≠ T.1 8 0 → T2.2 a = T.2 a := fun a p => by rw [← eT]; exact znw_e _ _ _ _ p
  have n3 : ∀ b, T2.1 (T.1 8 0) b = f b := fun b => by rw [← eT]; exact znw_f _ _ _ _ _ (by omega)
  have n4 : T2.2 (T.1 8 0) = D := by rw [← eT]; exact znw_d _ _ _ _ _
  have sp := zSeg_split hC.2
  have same := zSeg_same d2 sp.1
  have g : M (t + 2) 2 ≤ M2 (t + 2) 2 := by rw [v _ _ (by omega), hC.1, d1, List.length_append]; omega
  have sm : ∀ k, 0 ≤ k → k < M (t + 2) 2 → M2 (t + 3) k = M (t + 3) k := fun k k0 kk => by rw [v _ _ (by omega)]; exact same k k0 (by omega)
  refine ⟨hr.fr (fun a k p => v a k (by omega)), ⟨by rw [v _ _ (by omega)]; exact h5.1, by rw [v _ _ (by omega)]; exact h5.2.1, by rw [v _ _ (by omega)]; exact h5.2.2.1, by rw [v _ _ (by omega)]; exact h5.2.2.2⟩, ht, ⟨by rw [v _ _ (by omega)]; exact hC.1, zSeg_eq (fun j => v _ _ (by omega)) hC.2⟩, ⟨⟨by rw [v2, n1], ?_, ?_, ?_, ?_⟩, fun c c0 cn => ?_, fun q => ?_⟩⟩
  · rw [v _ _ (by omega), fr _ _ (by omega), ne _ _ (by omega) (by omega)]; exact c3
  · rw [v _ _ (by omega), fr _ _ (by omega), ne _ _ (by omega) (by omega)]; exact c4
  · rw [v _ _ (by omega), fr _ _ (by omega), ne _ _ (by omega) (by omega)]; exact c5
  · rw [v _ _ (by omega), hC.1]; omega
  · rw [n1] at cn
    by_cases q : c = T.1 8 0
    · subst q
      unfold zTc1 zTcC
      simp only [n3, n4]
      have w : ∀ k, M2 (t + 7 + 2 * T.1 8 0) k = M' (t + 7 + 2 * T.1 8 0) k := fun k => v _ _ (by omega)
      simp only [w]
      refine ⟨hf, fun x => ?_, fun k k0 k6 => by rw [v _ _ (by omega)]; exact hl k k0 k6⟩
      obtain ⟨x1, x2⟩ := hcd x
      rw [x1, x2]
      refine ⟨by omega, by rw [List.length_append]; omega, by rw [v _ _ (by omega), hC.1]; omega, ?_⟩
      have := sp.2
      rw [show (0 : Int) + (C.length : Nat) = (C.length : Nat) from by omega] at this
      exact zSeg_eq (fun j => v _ _ (by omega)) this
    · exact (cc c c0 (by omega)).tr (fun k => ne _ _ q (by omega)) (n2 _ q) (fun k => by rw [v _ _ (by omega)]; exact fr _ _ (by omega)) (fun k => by rw [v _ _ (by omega)]; exact fr _ _ (by omega)) g sm
  · rw [ne _ _ (by omega) (by omega)] at q
    have := (cm q).tr (T' := T2) (M' := M2) (n2 8 (by omega)) g sm
    rw [v t 6 (by omega), v t 7 (by omega), fr t 6 (by omega), fr t 7 (by omega)]
    exact this
