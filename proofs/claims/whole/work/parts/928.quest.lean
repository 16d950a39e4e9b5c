/-! Questions answered: both sides. -/
def zokQ (v : Int) : Bool := decide (v = 40 ∨ 42 ≤ v ∧ v ≤ 45 ∨ 60 ≤ v ∧ v ≤ 61)
theorem zokQ_ok {v : Int} : zokQ v = true ↔ (v = 40 ∨ 42 ≤ v ∧ v ≤ 45 ∨ 60 ≤ v ∧ v ≤ 61) := by unfold zokQ; exact decide_eq_true_iff
def zEq1 (T : zTb) (L : Int → Int) (i w : Int) : Int := if w = 0 then L 0 else if w = 2 then i else if w = 3 then T.1 i 0 else if w = 4 then L (1 + i) else zclip (L (1 + i) - ztr T (L 0).toNat (1 + i))
def zEq2 (T : zTb) (L : Int → Int) (i w a : Int) : Int := if w = 0 then (if 0 ≤ a ∧ a ≤ 200 ∧ L 0 + a ≤ 999 then zln T L a.toNat (1 + i) else 0) else (if 0 ≤ a ∧ a < T.1 8 0 then L (1 + a) else 0)
def zEq (T : zTb) (L : Int → Int) (i : Int) : (Int → Int) × (Int → Int → Int) := (zEq1 T L i, zEq2 T L i)
theorem zclip_id {v : Int} (h : -1000000 ≤ v ∧ v ≤ 1000000) : zclip v = v := by
  unfold zclip
  rw [if_neg (by omega), if_neg (by omega)]
theorem zEq_ok {T : zTb} {L : Int → Int} {i : Int} (hP : zPu T L) (i0 : 0 ≤ i) (hi : i < T.1 8 0) : zEok zokQ (zEq T L i) := by
  have hn8 := hP.1.2.1
  have h0 := hP.2.1.1
  have h9 := hP.2.2
  have hv := (hP.2.1.2.2 i i0 hi).in (hP.1.2.2.2.2.2.2.2 i i0 hi)
  have hs : 0 ≤ T.1 i 0 ∧ T.1 i 0 ≤ 3 := by have := hP.1.2.2.2.2.2.2.2 i i0 hi; unfold zTok1 at this; omega
  have hc := zclip_in (L (1 + i) - ztr T (L 0).toNat (1 + i))
  refine ⟨fun v a b c => ?_, fun v a h1 h2 c => ?_⟩
  · show -1000000 ≤ zEq1 T L i (v - 40) ∧ zEq1 T L i (v - 40) ≤ 1000000
    unfold zEq1
    split
    · omega
    · split
      · omega
      · split
        · omega
        · split
          · exact hv
          · exact hc
  · show -1000000 ≤ zEq2 T L i (v - 60) a ∧ zEq2 T L i (v - 60) a ≤ 1000000
    unfold zEq2
    split
    · split
      · exact zln_v hP (by omega) i0 hi
      · omega
    · split
      · rename_i g
        exact (hP.2.1.2.2 a g.1 g.2).in (hP.1.2.2.2.2.2.2.2 a g.1 g.2)
      · omega
def zqj (kind x v i : Int) : Int := if kind = 0 then (if x = -1 ∧ v = 1 then i else x) else if kind = 1 then (if v = 1 then i else x) else if kind ≤ 3 then x + v else if kind = 4 then (if i = 0 ∨ x < v then v else x) else (if i = 0 ∨ v < x then v else x)
def zqa (T : zTb) (L : Int → Int) (kind : Int) (cs : List Int) : Nat → Int
  | 0 => if kind ≤ 1 then -1 else 0
  | i + 1 => zqj kind (zqa T L kind cs i) (zval (zEq T L i) cs) i
theorem zqa_in {T : zTb} {L : Int → Int} {kind : Int} {cs : List Int} (hP : zPu T L) (hz : zty zokQ cs [] = some [decide (kind < 3)]) : ∀ i : Nat, (i : Int) ≤ T.1 8 0 → -1000001 * ((i : Int) + 1) ≤ zqa T L kind cs i ∧ zqa T L kind cs i ≤ 1000001 * ((i : Int) + 1)
  | 0, _ => by unfold zqa; split <;> omega
  | i + 1, h => by
    have ih := zqa_in hP hz i (by omega)
    have hv := zval_in (zEq_ok hP (i := (i : Int)) (by omega) (by omega)) hz
    have hb : -1000000 ≤ zval (zEq T L i) cs ∧ zval (zEq T L i) cs ≤ 1000000 := by
      by_cases c : kind < 3
      · rw [if_pos (by simpa using c)] at hv; omega
      · rw [if_neg (by simpa using c)] at hv; exact hv
    show _ ≤ zqj kind (zqa T L kind cs i) (zval (zEq T L i) cs) i ∧ zqj kind (zqa T L kind cs i) (zval (zEq T L i) cs) i ≤ _
    unfold zqj
    split
    · split <;> omega
    · split
      · split <;> omega
      · split
        · omega
        · split
          · split <;> omega
          · split <;> omega
theorem c_askScn {G : zG} {h sl : Nat} (hsl : 1 ≤ sl) {T : zTb} {L : Int → Int} {t i : Int} {m : Nat} {M : zM} (hP : zPu T L) (hC : zCk T L t M) (hc : zCo T L m M 13 t) (hm : zam L ≤ m) (i0 : 0 ≤ i) (hi : i < T.1 8 0) (e3 : M 76 3 = t) (e4 : M 76 4 = i) : zScn G (h + 1) sl true 76 zokQ (zEq T L i) M := by
  have ht := hC.1
  have hn8 := hP.1.2.1
  have h0 := hP.2.1.1
  have h9 := hP.2.2
  have e5 : M 5 i = L (1 + i) := (hC.2.2.2.1.2.2 i i0 hi).1
  have hv := (hP.2.1.2.2 i i0 hi).in (hP.1.2.2.2.2.2.2.2 i i0 hi)
  obtain ⟨⟨a1, _⟩, _⟩ := hC.c1 i0 hi
  refine ⟨fun v Q x1 x2 hv' q => Or.inr ⟨by decide, ?_⟩, fun v a Q x1 x2 hv' ha q => Or.inr ⟨by decide, ?_⟩⟩
  · rw [zokQ_ok] at hv'
    have q : Q (zEq1 T L i (v - 40)) M := q
    unfold zEq1 at q
    refine E_Question_told hsl ⟨fun g => absurd g (by rw [e3]; omega), fun _ => ⟨fun g => absurd g (by rw [e4]; omega), fun _ => ⟨by rw [e3]; exact hC.kt, ?_⟩⟩⟩
    rw [e3, e4, hC.2.2.1.1.1]
    refine ⟨fun _ => ?_, fun g => absurd hi g⟩
    unfold zix
    rw [if_neg (by omega), if_pos rfl]
    by_cases c0 : v = 40
    · subst c0
      rw [if_pos (by decide)] at q
      rw [if_pos rfl]
      exact ⟨fun g => absurd g (by decide), fun g => absurd g (by decide), fun g => absurd g (by decide), fun g => absurd g (by decide), fun _ => by rw [hC.l0]; exact q, fun g => absurd g (by decide)⟩
    · rw [if_neg c0]
      rw [if_neg (by omega)] at q
      refine ⟨fun g => ?_, fun g => ⟨by omega, ?_⟩, fun g => ⟨by omega, ?_⟩, fun g => ⟨by omega, ?_⟩, fun g => absurd g (by omega), fun g => absurd g (by omega)⟩
      · rw [if_pos (by omega)] at q; exact q
      · rw [if_neg (by omega), if_pos (by omega)] at q; rw [a1]; exact q
      · rw [if_neg (by omega), if_neg (by omega), if_pos (by omega)] at q; rw [e5]; exact q
      · rw [if_neg (by omega), if_neg (by omega), if_neg (by omega)] at q
        obtain ⟨m8, hm8, hc8⟩ := hC.2.2.2.2.1
        have hvt := ((ztr_ok hP.1 (k := (L 0).toNat) (by omega)).2.2.2 i i0 hi).in (hP.1.2.2.2.2.2.2.2 i i0 hi)
        have : zCt G h sl 0 0 y_Course_told [(2, 8), (0, (((L 0).toNat : Nat) : Int)), (0, i)] M (fun r5 M6 => (zI ((M 5 i) - r5)) ∧ (zCt G h sl 0 0 y_Jm_min_III [(0, 1000000), (0, ((M 5 i) - r5))] M6 (fun r8 M9 => zCt G h sl 0 0 y_Jm_max_III [(0, (-1000000)), (0, r8)] M9 (fun r10 M11 => Q r10 M11)))) := by
          refine c_toldC hsl (Or.inl rfl) hP.1 hc8 (by omega) i0 hi ?_
          have hvt : -1000000 ≤ zln T (zbg T) (L 0).toNat (1 + i) ∧ zln T (zbg T) (L 0).toNat (1 + i) ≤ 1000000 := hvt
          have q : Q (zclip (L (1 + i) - zln T (zbg T) (L 0).toNat (1 + i))) M := q
          rw [e5]
          unfold zclip at q
          refine ⟨by unfold zI; omega, E_Jm_min_III hsl ⟨fun g => E_Jm_max_III hsl ⟨fun g2 => ?_, fun g2 => ?_⟩, fun g => E_Jm_max_III hsl ⟨fun g2 => ?_, fun g2 => absurd (by decide) g2⟩⟩⟩
          · rw [if_neg (by omega), if_neg (by omega)] at q; exact q
          · by_cases z : L (1 + i) - zln T (zbg T) (L 0).toNat (1 + i) = -1000000
            · rw [if_neg (by omega), if_neg (by omega), z] at q; exact q
            · rw [if_neg (by omega), if_pos (by omega)] at q; exact q
          · by_cases z : L (1 + i) - zln T (zbg T) (L 0).toNat (1 + i) = 1000000
            · rw [if_neg (by omega), if_neg (by omega), z] at q; exact q
            · rw [if_pos (by omega)] at q; exact q
        rw [show (((L 0).toNat : Nat) : Int) = L 0 from by omega] at this
        rw [hC.l0]
        exact this
  · have q : Q (zEq2 T L i (v - 60) a) M := q
    unfold zEq2 at q
    refine E_Question_asked hsl ⟨fun g => ?_, fun g => ?_⟩
    · rw [e3]
      rw [if_neg g] at q
      refine ⟨fun g => absurd g (by omega), fun _ => ⟨fun g1 => ?_, fun g1 => ⟨hC.kt, ?_⟩⟩⟩
      · rw [if_neg (by omega)] at q; exact q
      · rw [hC.2.2.1.1.1]
        refine ⟨fun g2 => ?_, fun g2 => ⟨by omega, ?_⟩⟩
        · rw [if_neg (by omega)] at q; exact q
        · rw [if_pos (by omega)] at q
          rw [show M 5 a = L (1 + a) from (hC.2.2.2.1.2.2 a (by omega) (by omega)).1]; exact q
    · rw [if_pos (by omega)] at q
      rw [hC.l0]
      refine ⟨fun g1 => B_Question_asked_35 hsl ⟨fun _ => ?_, fun y => absurd rfl y⟩, fun g1 => ⟨fun g2 => B_Question_asked_35 hsl ⟨fun _ => ?_, fun y => absurd rfl y⟩, fun g2 => ⟨by unfold zI; omega, fun g3 => B_Question_asked_35 hsl ⟨fun _ => ?_, fun y => absurd rfl y⟩, fun g3 => B_Question_asked_35 hsl ⟨fun y => absurd y (by decide), fun _ => ?_⟩⟩⟩⟩
      · rw [if_neg (by omega)] at q; exact q
      · rw [if_neg (by omega)] at q; exact q
      · rw [if_neg (by omega)] at q; exact q
      · rw [if_pos (by omega)] at q
        rw [e4]
        have : zCt G h sl 0 0 y_Course_told [(2, 13), (0, ((a.toNat : Nat) : Int)), (0, i)] M (fun r1 M2 => Q r1 M2) := c_toldC hsl (Or.inr rfl) hP.1 hc (by unfold zam at hm; omega) i0 hi q
        rw [show ((a.toNat : Nat) : Int) = a from by omega] at this
        exact this
def zPan : Int → Int → Prop := fun a k => a = 75 ∨ a = 76 ∧ (k = 3 ∨ k = 4)
theorem c_answerL {G : zG} {h sl : Nat} (hsl : 1 ≤ sl) {T : zTb} {L : Int → Int} {t kind : Int} {m : Nat} {cs : List Int} {M0 : zM} {Q : Int → zM → Prop} (hP : zPu T L) (hC0 : zCk T L t M0) (hc0 : zCo T L m M0 13 t) (hm : zam L ≤ m) (hk : 0 ≤ kind ∧ kind ≤ 5) (hz : zty zokQ cs [] = some [decide (kind < 3)]) (hlen : M0 73 2 = cs.length) (hl16 : cs.length ≤ 1600) (hs : zSeg true M0 74 0 cs)
    (q : ∀ M', zSm zPan M0 M' → Q (zqa T L kind cs (T.1 8 0).toNat) M') :
    ∀ (d i : Nat) {M : zM} {u : Nat × Nat × Nat × Nat}, d + i = (T.1 8 0).toNat → zSm zPan M0 M → M 76 3 = t → zX G (y_Question_answer, h + 2 + 1, sl) u 22 [(0, (2, 76)), (1, (2, t)), (2, (0, kind)), (3, (2, 73)), (4, (1, zqa T L kind cs i)), (6, (0, (i : Int)))] [] M Q
  | 0, i, M, u, e, hM, e3 => by
    have h0 := hP.1.1
    have ht := hC0.1
    have hC : zCk T L t M := hC0.fr hP.1 (fun a k p => hM a k (by unfold zdCk at p; unfold zPan; omega))
    refine B_Question_answer_22 hsl ⟨hC.kt, fun _ => ?_, fun g => absurd (by rw [hC.2.2.1.1.1]; omega) g⟩
    rw [show (T.1 8 0).toNat = i from by omega] at q
    exact q M hM
  | d + 1, i, M, u, e, hM, e3 => by
    have h0 := hP.1.1
    have hn8 := hP.1.2.1
    have ht := hC0.1
    have hC : zCk T L t M := hC0.fr hP.1 (fun a k p => hM a k (by unfold zdCk at p; unfold zPan; omega))
    refine B_Question_answer_22 hsl ⟨hC.kt, fun g => absurd g (by rw [hC.2.2.1.1.1]; omega), fun _ => ⟨by decide, ?_⟩⟩
    have s1 : zSm zPan M0 (zwr M 76 4 (i : Int)) := hM.wr (Or.inr ⟨rfl, Or.inr rfl⟩)
    have e73 : (zwr M 76 4 (i : Int)) 73 2 = cs.length := by rw [s1 _ _ (by unfold zPan; omega)]; exact hlen
    rw [e73]
    have hE := zEq_ok hP (i := (i : Int)) (by omega) (by omega)
    have hvI := zval_in hE hz
    have hb := zqa_in hP hz i (by omega)
    have ij : zqa T L kind cs (i + 1) = zqj kind (zqa T L kind cs i) (zval (zEq T L i) cs) i := rfl
    refine c_run (q := true) (ty := decide (kind < 3)) (cs := cs) hsl (by decide) hE (fun v a b hv => ?_) (fun M' hM' => ?_) (by rw [e73]; omega) (by rw [e73]; omega) (by omega) (by omega) ?_ hz (fun M' hM' => ?_)
    · rw [zokQ_ok] at hv
      unfold zix
      rw [if_neg (by omega), if_pos rfl]
      split <;> omega
    · have s2 : zSm zPan M0 M' := s1.trans (hM'.mono (fun a k p => Or.inl p))
      exact c_askScn hsl hP (hC0.fr hP.1 (fun a k p => s2 a k (by unfold zdCk at p; unfold zPan; omega))) (hc0.fr (fun a k p => s2 a k (by unfold zdCo at p; unfold zPan; omega))) hm (by omega) (by omega) (by rw [hM' _ _ (by decide), zwr_k _ (by decide)]; exact e3) (by rw [hM' _ _ (by decide), zwr_s])
    · exact zSeg_eq (fun j => s1 74 j (by unfold zPan; omega)) hs
    · have s2 : zSm zPan M0 M' := s1.trans (hM'.mono (fun a k p => Or.inl p))
      have e4 : M' 76 4 = i := by rw [hM' _ _ (by decide), zwr_s]
      have next : zI ((i : Int) + 1) ∧ zX G (y_Question_answer, h + 2 + 1, sl) u 22 [(0, (2, 76)), (1, (2, t)), (2, (0, kind)), (3, (2, 73)), (4, (1, zqj kind (zqa T L kind cs i) (zval (zEq T L i) cs) i)), (6, (0, (i : Int) + 1))] [] M' Q := ⟨by unfold zI; omega, by
        have := c_answerL (G := G) (h := h) (Q := Q) hsl hP hC0 hc0 hm hk hz hlen hl16 hs q d (i + 1) (M := M') (u := u) (by omega) s2 (by rw [hM' _ _ (by decide), zwr_k _ (by decide)]; exact e3)
        rw [zcs, ij] at this
        exact this⟩
      have hbv : -1000000 ≤ zval (zEq T L i) cs ∧ zval (zEq T L i) cs ≤ 1000000 := by
        by_cases c : kind < 3
        · rw [if_pos (by simpa using c)] at hvI; omega
        · rw [if_neg (by simpa using c)] at hvI; exact hvI
      generalize zval (zEq T L i) cs = v at *
      generalize zqa T L kind cs i = x at *
      refine E_Question_joined hsl ?_
      rw [e4]
      have to : ∀ r, r = zqj kind x v i → zI ((i : Int) + 1) ∧ zX G (y_Question_answer, h + 2 + 1, sl) u 22 [(0, (2, 76)), (1, (2, t)), (2, (0, kind)), (3, (2, 73)), (4, (1, r)), (6, (0, (i : Int) + 1))] [] M' Q := fun r er => er ▸ next
      refine ⟨fun g => ⟨fun g2 => to _ ?_, fun g2 => ⟨fun g3 => to _ ?_, fun g3 => to _ ?_⟩⟩, fun g => ⟨fun g2 => to _ ?_, fun g2 => to _ ?_⟩, fun g => ⟨by unfold zL; omega, to _ ?_⟩, fun g => ⟨by unfold zL; omega, to _ ?_⟩, fun g => ⟨fun g2 => E_Jm_max_JJJ hsl ⟨fun g3 => to _ ?_, fun g3 => to _ ?_⟩, fun g2 => to _ ?_⟩, fun g => ⟨fun g2 => E_Jm_min_JJJ hsl ⟨fun g3 => to _ ?_, fun g3 => to _ ?_⟩, fun g2 => to _ ?_⟩, fun g => absurd g (by omega)⟩
      all_goals unfold zqj
      · rw [if_pos g, if_neg (by omega)]
      · rw [if_pos g, if_neg (by omega)]
      · rw [if_pos g, if_pos (by omega)]
      · rw [if_neg (by omega), if_pos g, if_neg (by omega)]
      · rw [if_neg (by omega), if_pos g, if_pos (by omega)]
      · rw [if_neg (by omega), if_neg (by omega), if_pos (by omega)]
      · rw [if_neg (by omega), if_neg (by omega), if_pos (by omega)]
      · rw [if_neg (by omega), if_neg (by omega), if_neg (by omega), if_pos g]; split <;> omega
      · rw [if_neg (by omega), if_neg (by omega), if_neg (by omega), if_pos g]; split <;> omega
      · rw [if_neg (by omega), if_neg (by omega), if_neg (by omega), if_pos g]; split <;> omega
      · rw [if_neg (by omega), if_neg (by omega), if_neg (by omega), if_neg (by omega)]; split <;> omega
      · rw [if_neg (by omega), if_neg (by omega), if_neg (by omega), if_neg (by omega)]; split <;> omega
      · rw [if_neg (by omega), if_neg (by omega), if_neg (by omega), if_neg (by omega)]; split <;> omega
theorem c_answer {G : zG} {h sl : Nat} (hsl : 1 ≤ sl) {T : zTb} {L : Int → Int} {t kind : Int} {m : Nat} {cs : List Int} {M : zM} {Q : Int → zM → Prop} (hP : zPu T L) (hC : zCk T L t M) (hc : zCo T L m M 13 t) (hm : zam L ≤ m) (hk : 0 ≤ kind ∧ kind ≤ 5) (hz : zty zokQ cs [] = some [decide (kind < 3)]) (hlen : M 73 2 = cs.length) (hl16 : cs.length ≤ 1600) (hs : zSeg true M 74 0 cs)
    (q : ∀ M', zSm zPan M M' → Q (zqa T L kind cs (T.1 8 0).toNat) M') : zCt G (h + 3) sl 0 0 y_Question_answer [(2, 76), (2, t), (0, kind), (2, 73)] M Q := by
  have ht := hC.1
  have s1 : zSm zPan M (zwr M 76 3 t) := (zSm.refl _ M).wr (Or.inr ⟨rfl, Or.inl rfl⟩)
  have lp := c_answerL (G := G) (h := h) (Q := Q) (M0 := M) hsl hP hC hc hm hk hz hlen hl16 hs q (T.1 8 0).toNat 0 (M := zwr M 76 3 t) (u := (0, 0, 0, 0)) (by omega) s1 (zwr_s _ _ _ _)
  unfold zqa at lp
  refine E_Question_answer hsl ⟨fun g => ?_, fun g => ?_⟩
  · rw [if_neg (by omega)] at lp; exact lp
  · rw [if_pos (by omega)] at lp; exact lp
