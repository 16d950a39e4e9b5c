/-! THE CLASS: tells(): position by position of the lines listed. -/
def zlq (F : Nat → Nat) (g : Nat → Int) (v : Int) : Nat → Int
  | 0 => 0
  | i + 1 => zlq F g v i + (if g (F i) = v then 1 else 0)
def zmq (F : Nat → Nat) (g : Nat → Int) : Nat → Int
  | 0 => 0
  | i + 1 => if zmq F g i < zlq F g (g (F i)) i + 1 then zlq F g (g (F i)) i + 1 else zmq F g i
theorem zlq_in (F : Nat → Nat) (g : Nat → Int) (v : Int) : ∀ n : Nat, 0 ≤ zlq F g v n ∧ zlq F g v n ≤ n
  | 0 => by simp [zlq]
  | n + 1 => by
    have := zlq_in F g v n
    unfold zlq
    split <;> omega
theorem zlq_0 {F : Nat → Nat} {g : Nat → Int} {v : Int} : ∀ {n : Nat}, (∀ i, i < n → g (F i) ≠ v) → zlq F g v n = 0
  | 0, _ => rfl
  | n + 1, h => by
    unfold zlq
    rw [zlq_0 (fun i hi => h i (by omega)), if_neg (h n (by omega))]
    rfl
theorem zmq_in (F : Nat → Nat) (g : Nat → Int) : ∀ n : Nat, 0 ≤ zmq F g n ∧ zmq F g n ≤ n
  | 0 => by simp [zmq]
  | n + 1 => by
    have := zmq_in F g n
    have := zlq_in F g (g (F n)) n
    unfold zmq
    split <;> omega
/-- the line at a position -/
def zFp (p : Nat → Bool) (N i : Nat) : Nat := (zkh p (fun i => (i : Int)) i N).toNat
theorem zkh_in {p : Nat → Bool} {f : Nat → Int} {k : Int} : ∀ {n : Nat}, 0 ≤ k → k < (zct p n : Int) → ∃ m, m < n ∧ p m = true ∧ (zct p m : Int) = k ∧ zkh p f k n = f m
  | 0, a, b => absurd b (by show ¬ k < ((0 : Nat) : Int); omega)
  | n + 1, a, b => by
    by_cases c : p n = true ∧ (zct p n : Int) = k
    · exact ⟨n, by omega, c.1, c.2, zkh_yes c.1 c.2⟩
    · have hs : zct p (n + 1) = zct p n + (if p n = true then 1 else 0) := rfl
      have hb : k < (zct p n : Int) := by
        rw [hs] at b
        by_cases d : p n = true
        · rw [if_pos d] at b
          have : (zct p n : Int) ≠ k := fun x => c ⟨d, x⟩
          omega
        · rw [if_neg d] at b
          omega
      obtain ⟨m, h1, h2, h3, h4⟩ := zkh_in (f := f) a hb
      exact ⟨m, by omega, h2, h3, by rw [zkh_no c]; exact h4⟩
theorem zFp_is {p : Nat → Bool} {m N : Nat} (h : p m = true) (hm : m < N) : zFp p N (zct p m) = m := by
  unfold zFp
  rw [zkh_is h hm]
  omega
theorem zlk_q {p : Nat → Bool} {g : Nat → Int} {N : Nat} (v : Int) : ∀ n : Nat, n ≤ N → zlk p g v n = zlq (zFp p N) g v (zct p n)
  | 0, _ => rfl
  | n + 1, h => by
    unfold zlk
    rw [zlk_q (N := N) v n (by omega)]
    by_cases c : p n = true
    · rw [zct_yes c]
      show _ = zlq (zFp p N) g v (zct p n) + (if g (zFp p N (zct p n)) = v then 1 else 0)
      rw [zFp_is c (by omega)]
      simp only [c, true_and]
    · rw [zct_no c, if_neg (fun x => c x.1)]
      omega
theorem zmx_q {p : Nat → Bool} {g : Nat → Int} {N : Nat} : ∀ n : Nat, n ≤ N → zmx p g n = zmq (zFp p N) g (zct p n)
  | 0, _ => rfl
  | n + 1, h => by
    unfold zmx
    rw [zmx_q (N := N) n (by omega), zlk_q (N := N) (g n) n (by omega)]
    by_cases c : p n = true
    · rw [zct_yes c]
      show _ = if zmq (zFp p N) g (zct p n) < zlq (zFp p N) g (g (zFp p N (zct p n))) (zct p n) + 1 then _ else _
      rw [zFp_is c (by omega)]
      simp only [c, true_and]
    · rw [zct_no c, if_neg (fun x => c x.1)]
theorem c_alikeB {G : zG} {h sl : Nat} (hsl : 1 ≤ sl) {T : zTb} {t rm c : Int} {rw : Int → Int} {e : Nat} {M0 : zM} {r : Int} {Q : Int → zM → Prop} (hT : zTok T) (he : e ≤ 30) (c0 : 0 ≤ c) (cn : c < T.1 8 0) (h3 : T.1 c 0 ≠ 3) (hf : zPf T rm rw M0) (h4 : zT42 T t M0)
    (q : ∀ M', zSm (fun a _ => a = 69) M0 M' → (∀ v, 0 ≤ v → v < 1000 → M' 69 v = 0) → Q r M') :
    ∀ (f i : Nat) {M : zM} {u : Nat × Nat × Nat × Nat}, f + i = zct (zfp T rm rw) 400 → zSm (fun a _ => a = 69) M0 M → (∀ v, 0 ≤ v → v < 1000 → M 69 v = 0 ∨ M 69 v = zlq (zFp (zfp T rm rw) 400) (fun l => ztr T (l + e) (1 + c)) v (zct (zfp T rm rw) 400) ∧ ∀ j, j < i → (fun l => ztr T (l + e) (1 + c)) (zFp (zfp T rm rw) 400 j) ≠ v) → zX G (y_Piece_mostAlike, h + 1, sl) u 78 [(0, (2, 63)), (1, (0, (e : Int))), (2, (0, c)), (3, (0, r)), (4, (0, (i : Int)))] [] M Q
  | 0, i, M, u, x, hM, hz => by
    refine B_Piece_mostAlike_78 hsl ⟨fun _ => q M hM (fun v v0 v1 => ?_), fun g => absurd (by rw [hM _ _ (by omega), hf.1]; omega) g⟩
    rcases hz v v0 v1 with hz | ⟨hz, hn⟩
    · exact hz
    · rw [hz]
      exact zlq_0 (fun j hj => hn j (by omega))
  | f + 1, i, M, u, x, hM, hz => by
    have hle := zct_le (zfp T rm rw) 400
    obtain ⟨m, m1, m2, m3, m4⟩ := zkh_in (p := zfp T rm rw) (f := fun i => (i : Int)) (k := (i : Int)) (n := 400) (by omega) (by omega)
    have e70 : M 70 (i : Int) = m := by rw [hM _ _ (by omega), hf.2 i (by omega) (by omega)]; exact m4
    have eF : zFp (zfp T rm rw) 400 i = m := by unfold zFp; rw [m4]; omega
    have h4' : zT42 T t M := h4.fr (fun a j p => hM a j (by unfold zdCo at p; omega))
    have hok := hT.2.2.2.2.2.2.2 c c0 cn
    have hv := (ztr_ok hT (k := m + e) (by omega)).2.2.2 c c0 cn
    unfold zCok at hv
    rw [if_neg h3] at hv
    have hb : 0 ≤ ztr T (m + e) (1 + c) ∧ ztr T (m + e) (1 + c) < 1000 := by unfold zTok1 at hok; omega
    refine B_Piece_mostAlike_78 hsl ⟨fun g => absurd g (by rw [hM _ _ (by omega), hf.1]; omega), fun _ => ⟨by omega, ?_⟩⟩
    rw [e70]
    refine ⟨by unfold zI; omega, c_told4 hsl hT h4' (by omega) (by omega) c0 cn ?_⟩
    rw [show ((m : Int) + (e : Int)).toNat = m + e from by omega]
    refine ⟨fun g => absurd g (by omega), fun _ => ⟨fun g => absurd g (by omega), fun _ => ⟨hb, by unfold zI; omega, ?_⟩⟩⟩
    have := c_alikeB (G := G) (h := h) (Q := Q) hsl hT he c0 cn h3 hf h4 q f (i + 1) (M := zwr M 69 (ztr T (m + e) (1 + c)) 0) (u := u) (by omega) (hM.wr rfl) (fun v v0 v1 => by
      by_cases cv : v = ztr T (m + e) (1 + c)
      · subst cv
        exact Or.inl (zwr_s _ _ _ _)
      · rw [zwr_k _ cv]
        rcases hz v v0 v1 with hz | ⟨hz, hn⟩
        · exact Or.inl hz
        · refine Or.inr ⟨hz, fun j hj => ?_⟩
          by_cases cj : j = i
          · subst cj
            simp only [eF]
            exact fun x => cv x.symm
          · exact hn j (by omega))
    rw [zcs] at this
    exact this
theorem c_alikeA {G : zG} {h sl : Nat} (hsl : 1 ≤ sl) {T : zTb} {t rm c : Int} {rw : Int → Int} {e : Nat} {M0 : zM} {Q : Int → zM → Prop} (hT : zTok T) (he : e ≤ 30) (c0 : 0 ≤ c) (cn : c < T.1 8 0) (h3 : T.1 c 0 ≠ 3) (hf : zPf T rm rw M0) (h4 : zT42 T t M0)
    (q : ∀ M', zSm (fun a _ => a = 69) M0 M' → (∀ v, 0 ≤ v → v < 1000 → M' 69 v = 0) → Q (zml T rm rw e c) M') :
    ∀ (f i : Nat) (y : Int) {M : zM} {u : Nat × Nat × Nat × Nat}, f + i = zct (zfp T rm rw) 400 → y = zmq (zFp (zfp T rm rw) 400) (fun l => ztr T (l + e) (1 + c)) i → zSm (fun a _ => a = 69) M0 M → (∀ v, 0 ≤ v → v < 1000 → M 69 v = zlq (zFp (zfp T rm rw) 400) (fun l => ztr T (l + e) (1 + c)) v i) → zX G (y_Piece_mostAlike, h + 1, sl) u 5 [(0, (2, 63)), (1, (0, (e : Int))), (2, (0, c)), (3, (0, y)), (4, (0, (i : Int)))] [] M Q
  | 0, i, y, M, u, x, ey, hM, hz => by
    have ei : i = zct (zfp T rm rw) 400 := by omega
    have hy : zml T rm rw e c = y := by
      rw [ey, ei]
      exact zmx_q (N := 400) 400 (Nat.le_refl _)
    rw [hy] at q
    refine B_Piece_mostAlike_5 hsl ⟨fun _ => c_alikeB (M0 := M0) (t := t) hsl hT he c0 cn h3 hf h4 q (zct (zfp T rm rw) 400) 0 (by omega) hM (fun v v0 v1 => Or.inr ⟨by rw [← ei]; exact hz v v0 v1, fun j hj => absurd hj (by omega)⟩), fun g => absurd (by rw [hM _ _ (by omega), hf.1]; omega) g⟩
  | f + 1, i, y, M, u, x, ey, hM, hz => by
    have hle := zct_le (zfp T rm rw) 400
    obtain ⟨m, m1, m2, m3, m4⟩ := zkh_in (p := zfp T rm rw) (f := fun i => (i : Int)) (k := (i : Int)) (n := 400) (by omega) (by omega)
    have e70 : M 70 (i : Int) = m := by rw [hM _ _ (by omega), hf.2 i (by omega) (by omega)]; exact m4
    have eF : zFp (zfp T rm rw) 400 i = m := by unfold zFp; rw [m4]; omega
    have h4' : zT42 T t M := h4.fr (fun a j p => hM a j (by unfold zdCo at p; omega))
    have hok := hT.2.2.2.2.2.2.2 c c0 cn
    have hv := (ztr_ok hT (k := m + e) (by omega)).2.2.2 c c0 cn
    unfold zCok at hv
    rw [if_neg h3] at hv
    have hb : 0 ≤ ztr T (m + e) (1 + c) ∧ ztr T (m + e) (1 + c) < 1000 := by unfold zTok1 at hok; omega
    have hzz := hz (ztr T (m + e) (1 + c)) hb.1 hb.2
    have hin := zlq_in (zFp (zfp T rm rw) 400) (fun l => ztr T (l + e) (1 + c)) (ztr T (m + e) (1 + c)) i
    have hmi := zmq_in (zFp (zfp T rm rw) 400) (fun l => ztr T (l + e) (1 + c)) i
    rw [← ey] at hmi
    refine B_Piece_mostAlike_5 hsl ⟨fun g => absurd g (by rw [hM _ _ (by omega), hf.1]; omega), fun _ => ⟨by omega, ?_⟩⟩
    rw [e70]
    refine ⟨by unfold zI; omega, c_told4 hsl hT h4' (by omega) (by omega) c0 cn ?_⟩
    rw [show ((m : Int) + (e : Int)).toNat = m + e from by omega]
    refine ⟨fun g => absurd g (by omega), fun _ => ⟨fun g => absurd g (by omega), fun _ => ⟨hb, ?_⟩⟩⟩
    rw [hzz, zwr_s]
    have go : ∀ y', y' = zmq (zFp (zfp T rm rw) 400) (fun l => ztr T (l + e) (1 + c)) (i + 1) → zI ((i : Int) + 1) ∧ zX G (y_Piece_mostAlike, h + 1, sl) u 5 [(0, (2, 63)), (1, (0, (e : Int))), (2, (0, c)), (3, (0, y')), (4, (0, (i : Int) + 1))] [] (zwr M 69 (ztr T (m + e) (1 + c)) (zlq (zFp (zfp T rm rw) 400) (fun l => ztr T (l + e) (1 + c)) (ztr T (m + e) (1 + c)) i + 1)) Q := fun y' ey' => ⟨by unfold zI; omega, by
      have := c_alikeA (G := G) (h := h) (Q := Q) hsl hT he c0 cn h3 hf h4 q f (i + 1) y' (M := zwr M 69 (ztr T (m + e) (1 + c)) (zlq (zFp (zfp T rm rw) 400) (fun l => ztr T (l + e) (1 + c)) (ztr T (m + e) (1 + c)) i + 1)) (u := u) (by omega) ey' (hM.wr rfl) (fun v v0 v1 => by
        show _ = zlq (zFp (zfp T rm rw) 400) (fun l => ztr T (l + e) (1 + c)) v i + (if (fun l => ztr T (l + e) (1 + c)) (zFp (zfp T rm rw) 400 i) = v then 1 else 0)
        simp only [eF]
        by_cases cv : v = ztr T (m + e) (1 + c)
        · subst cv
          rw [zwr_s, if_pos rfl]
        · rw [zwr_k _ cv, if_neg (fun x => cv x.symm), hz v v0 v1]
          omega)
      rw [zcs] at this
      exact this⟩
    have es : zmq (zFp (zfp T rm rw) 400) (fun l => ztr T (l + e) (1 + c)) (i + 1) = if y < zlq (zFp (zfp T rm rw) 400) (fun l => ztr T (l + e) (1 + c)) (ztr T (m + e) (1 + c)) i + 1 then zlq (zFp (zfp T rm rw) 400) (fun l => ztr T (l + e) (1 + c)) (ztr T (m + e) (1 + c)) i + 1 else y := by
      rw [ey]
      show (if _ then _ else _) = _
      simp only [eF]
    refine ⟨by unfold zI; omega, E_Jm_max_III hsl ⟨fun g => go _ ?_, fun g => go _ ?_⟩⟩
    · rw [es, if_pos g]
    · rw [es, if_neg g]
theorem c_mostAlike {G : zG} {h sl : Nat} (hsl : 1 ≤ sl) {T : zTb} {t rm c : Int} {rw : Int → Int} {e : Nat} {M : zM} {Q : Int → zM → Prop} (hT : zTok T) (he : e ≤ 30) (c0 : 0 ≤ c) (cn : c < T.1 8 0) (h3 : T.1 c 0 ≠ 3) (hf : zPf T rm rw M) (h4 : zT42 T t M) (h69 : ∀ v, 0 ≤ v → v < 1000 → M 69 v = 0)
    (q : ∀ M', zSm (fun a _ => a = 69) M M' → (∀ v, 0 ≤ v → v < 1000 → M' 69 v = 0) → Q (zml T rm rw e c) M') : zCt G (h + 1) sl 0 0 y_Piece_mostAlike [(2, 63), (0, (e : Int)), (0, c)] M Q :=
  E_Piece_mostAlike hsl (c_alikeA (M0 := M) (t := t) hsl hT he c0 cn h3 hf h4 q (zct (zfp T rm rw) 400) 0 0 (by omega) rfl (zSm.refl _ _) (fun v v0 v1 => h69 v v0 v1))
theorem zml_in (T : zTb) (rm : Int) (rw : Int → Int) (e : Nat) (c : Int) : 0 ≤ zml T rm rw e c ∧ zml T rm rw e c ≤ 400 := zmx_in _ _ 400
/-- what the class's piece tells so far -/
def zWt (x : Int × Int × Int) (M : zM) : Prop := M 63 13 = x.2.2 ∧ (x.2.2 ≠ 0 → M 63 11 = x.1 ∧ M 63 12 = x.2.1)
def zPwg : Int → Int → Prop := fun a k => a = 69 ∨ a = 63 ∧ (k = 11 ∨ k = 12 ∨ k = 13 ∨ k = 15)
/-- weighing: the invariant -/
def zWi (T : zTb) (t rm : Int) (rw : Int → Int) (M0 M : zM) (x : Int × Int × Int) : Prop := zSm zPwg M0 M ∧ zPf T rm rw M ∧ zT42 T t M ∧ zTc T M t ∧ (∀ v, 0 ≤ v → v < 1000 → M 69 v = 0) ∧ zWt x M ∧ 0 ≤ x.2.2
theorem c_weighC {G : zG} {h sl : Nat} (hsl : 1 ≤ sl) {T : zTb} {t rm : Int} {rw : Int → Int} {e : Nat} {M0 : zM} {x0 : Int × Int × Int} {Q : Int → zM → Prop} (hT : zTok T) (ht : t = 79 ∨ t = 102) (he : e ≤ 30)
    (q : ∀ M' u, zWi T t rm rw M0 M' (zte2 T rm rw e x0 (T.1 8 0).toNat) → zX G (y_Piece_weigh, h + 1 + 1, sl) u 15 [(0, (2, 63)), (1, (2, t)), (2, (0, (e : Int) + 1))] [] M' Q) :
    ∀ (f k : Nat) {M : zM} {u : Nat × Nat × Nat × Nat}, f + k = (T.1 8 0).toNat → zWi T t rm rw M0 M (zte2 T rm rw e x0 k) → zX G (y_Piece_weigh, h + 1 + 1, sl) u 23 [(0, (2, 63)), (1, (2, t)), (2, (0, (e : Int))), (3, (0, (k : Int)))] [] M Q
  | 0, k, M, u, x, hw => by
    have hn := hT.1
    have hk8 : zK t = (8, 0) := by rcases ht with rfl | rfl <;> decide
    refine B_Piece_weigh_23 hsl ⟨hk8, fun _ => ⟨by unfold zI; omega, q M u ?_⟩, fun g => absurd (by rw [hw.2.2.2.1.1.1]; omega) g⟩
    rw [show (T.1 8 0).toNat = k from by omega]
    exact hw
  | f + 1, k, M, u, x, hw => by
    have hn := hT.1
    have hn8 := hT.2.1
    have hk8 : zK t = (8, 0) := by rcases ht with rfl | rfl <;> decide
    have hkc := (zs_cols hk8 (j := (k : Int)) (by omega) (by omega)).2
    obtain ⟨w1, w2, w3, w4, w5, w6, w7⟩ := hw
    have hml := zml_in T rm rw e (k : Int)
    generalize hx : zte2 T rm rw e x0 k = X at w6 w7
    have es : zte2 T rm rw e x0 (k + 1) = zte1 T rm rw e k X := by rw [← hx]; rfl
    have next : ∀ M1, zWi T t rm rw M0 M1 (zte1 T rm rw e k X) → zI ((k : Int) + 1) ∧ zX G (y_Piece_weigh, h + 1 + 1, sl) u 23 [(0, (2, 63)), (1, (2, t)), (2, (0, (e : Int))), (3, (0, (k : Int) + 1))] [] M1 Q := fun M1 h1 => ⟨by unfold zI; omega, by
      have := c_weighC (G := G) (h := h) (Q := Q) hsl hT ht he q f (k + 1) (M := M1) (u := u) (by omega) (by rw [es]; exact h1)
      rw [zcs] at this
      exact this⟩
    refine B_Piece_weigh_23 hsl ⟨hk8, fun g => absurd g (by rw [w4.1.1]; omega), fun _ => ⟨by omega, E_Column_moves hsl ⟨hkc, ?_⟩⟩⟩
    rw [(w4.2.1 (k : Int) (by omega) (by omega)).1.1]
    refine ⟨fun g => ⟨fun _ => B_Piece_weigh_53 hsl ⟨fun _ => next M ?_, fun g2 => absurd (by decide) g2⟩, fun y => absurd rfl y⟩, fun g => ⟨fun y => absurd y (by decide), fun _ => c_mostAlike (t := t) hsl hT he (by omega) (by omega) g w2 w3 w5 (fun M1 hM1 hz1 => ?_)⟩⟩
    · unfold zte1
      rw [if_neg (fun y => y.1 g)]
      exact ⟨w1, w2, w3, w4, w5, w6, w7⟩
    · have f1 : ∀ a j, a ≠ 69 → M1 a j = M a j := fun a j ha => hM1 a j ha
      have w2' : zPf T rm rw M1 := w2.fr (fun a j p => f1 a j (by omega))
      have w3' : zT42 T t M1 := w3.fr (fun a j p => f1 a j (by unfold zdCo at p; omega))
      have w4' : zTc T M1 t := w4.frG hT (fun a j h1 h2 h3 h4 => f1 a j (by omega))
      have w6' : zWt X M1 := ⟨by rw [f1 63 13 (by decide)]; exact w6.1, fun y => by rw [f1 63 11 (by decide), f1 63 12 (by decide)]; exact w6.2 y⟩
      have w1' : zSm zPwg M0 M1 := w1.trans (hM1.mono (fun a j p => Or.inl p))
      have same : ¬ (0 < zml T rm rw e k ∧ (X.2.2 = 0 ∨ zml T rm rw e k < X.2.2)) → zWi T t rm rw M0 M1 (zte1 T rm rw e k X) := fun y => by
        unfold zte1
        rw [if_neg (fun z => y z.2)]
        exact ⟨w1', w2', w3', w4', hz1, w6', w7⟩
      have take : ∀ u', (0 < zml T rm rw e k ∧ (X.2.2 = 0 ∨ zml T rm rw e k < X.2.2)) → zX G (y_Piece_weigh, h + 1 + 1, sl) u' 76 [(0, (2, 63)), (1, (2, t)), (2, (0, (e : Int))), (3, (0, (k : Int))), (4, (0, zml T rm rw e k))] [] M1 Q := fun u' y => by
        have g2 : ∀ a j, ¬ (a = 63 ∧ (j = 11 ∨ j = 12 ∨ j = 13)) → (zwr (zwr (zwr M1 63 11 (e : Int)) 63 12 (k : Int)) 63 13 (zml T rm rw e k)) a j = M1 a j := fun a j n => by
          rw [zwr_i, if_neg (by omega), zwr_i, if_neg (by omega), zwr_i, if_neg (by omega)]
        have e1 : zte1 T rm rw e k X = ((e : Int), (k : Int), zml T rm rw e k) := by
          unfold zte1
          rw [if_pos ⟨g, y⟩]
        have := c_weighC (G := G) (h := h) (Q := Q) hsl hT ht he q f (k + 1) (M := zwr (zwr (zwr M1 63 11 (e : Int)) 63 12 (k : Int)) 63 13 (zml T rm rw e k)) (u := u') (by omega) (by
          rw [es, e1]
          refine ⟨((w1'.wr (by unfold zPwg; omega)).wr (by unfold zPwg; omega)).wr (by unfold zPwg; omega), w2'.fr (fun a j p => g2 a j (by omega)), w3'.fr (fun a j p => g2 a j (by unfold zdCo at p; omega)), w4'.frG hT (fun a j h1 h2 h3 h4 => g2 a j (by omega)), fun v v0 v1 => by rw [g2 69 v (by omega)]; exact hz1 v v0 v1, ⟨zwr_s _ _ _ _, fun _ => ⟨?_, ?_⟩⟩, hml.1⟩
          · rw [zwr_k _ (by decide), zwr_k _ (by decide), zwr_s]
          · rw [zwr_k _ (by decide), zwr_s])
        rw [zcs] at this
        exact B_Piece_weigh_76 hsl ⟨by unfold zI; omega, this⟩
      refine B_Piece_weigh_53 hsl ⟨fun g2 => next M1 (same (by omega)), fun g2 => ?_⟩
      rw [w6'.1]
      exact ⟨fun g3 => take u ⟨by omega, Or.inl g3⟩, fun g3 => ⟨fun g4 => next M1 (same (by omega)), fun g4 => take u ⟨by omega, Or.inr (by omega)⟩⟩⟩
theorem zte1_0 {T : zTb} {rm : Int} {rw : Int → Int} {d : Nat} {c : Int} {x : Int × Int × Int} (h : 0 ≤ x.2.2) : 0 ≤ (zte1 T rm rw d c x).2.2 := by
  unfold zte1
  split
  · rename_i g; exact Int.le_of_lt g.2.1
  · exact h
theorem c_weighD {G : zG} {h sl : Nat} (hsl : 1 ≤ sl) {T : zTb} {t rm : Int} {rw : Int → Int} {M0 : zM} {Q : Int → zM → Prop} (hT : zTok T) (ht : t = 79 ∨ t = 102)
    (q : ∀ M', zSm zPwg M0 M' → zPf T rm rw M' → zPw T rm rw M' → (∀ v, 0 ≤ v → v < 1000 → M' 69 v = 0) → 0 ≤ (zte T rm rw 31).2.2 → Q 0 M') :
    ∀ (f e : Nat) {M : zM} {u : Nat × Nat × Nat × Nat}, f + e = 31 → zWi T t rm rw M0 M (zte T rm rw e) → zX G (y_Piece_weigh, h + 1 + 1, sl) u 15 [(0, (2, 63)), (1, (2, t)), (2, (0, (e : Int)))] [] M Q
  | 0, e, M, u, x, hw => by
    have : e = 31 := by omega
    subst this
    obtain ⟨w1, w2, w3, w4, w5, w6, w7⟩ := hw
    refine B_Piece_weigh_15 hsl ⟨fun _ => q _ (w1.wr (by unfold zPwg; omega)) (w2.fr (fun a j p => by rw [zwr_i, if_neg (by omega)])) ⟨by rw [zwr_k _ (by decide)]; exact w6.1, fun y => by rw [zwr_k _ (by decide), zwr_k _ (by decide)]; exact w6.2 y⟩ (fun v v0 v1 => by rw [zwr_o _ (by decide)]; exact w5 v v0 v1) w7, fun g => absurd (by decide) g⟩
  | f + 1, e, M, u, x, hw => by
    refine B_Piece_weigh_15 hsl ⟨fun g => absurd g (by omega), fun _ => c_weighC (M0 := M0) (x0 := zte T rm rw e) hsl hT ht (by omega) (fun M' u' h' => ?_) (T.1 8 0).toNat 0 (by omega) hw⟩
    have := c_weighD (G := G) (h := h) (Q := Q) hsl hT ht q f (e + 1) (M := M') (u := u') (by omega) h'
    rw [zcs] at this
    exact this
theorem c_weigh {G : zG} {h sl : Nat} (hsl : 1 ≤ sl) {T : zTb} {t rm : Int} {rw : Int → Int} {M : zM} {Q : Int → zM → Prop} (hT : zTok T) (ht : t = 79 ∨ t = 102) (hp : zPc T rm rw M) (hf : zPf T rm rw M) (h4 : zT42 T t M) (hm : zTc T M t) (q : ∀ M', zSm zPwg M M' → zPc T rm rw M' → zPw T rm rw M' → Q 0 M') : zCt G (h + 2) sl 0 0 y_Piece_weigh [(2, 63), (2, t)] M Q := by
  refine E_Piece_weigh hsl ⟨fun _ => ?_, fun g => q M (zSm.refl _ _) hp (hp.2.2.1 g)⟩
  have f0 : ∀ a j, ¬ (a = 63 ∧ j = 13) → (zwr M 63 13 0) a j = M a j := fun a j n => by rw [zwr_i, if_neg n]
  obtain ⟨p1, p2, p3, p4, p5⟩ := hp
  refine c_weighD (M0 := M) hsl hT ht (fun M' hM' hf' hw' h69 _ => q M' hM' ?_ hw') 31 0 rfl ⟨(zSm.refl _ M).wr (by unfold zPwg; omega), hf.fr (fun a j p => f0 a j (by omega)), h4.fr (fun a j p => f0 a j (by unfold zdCo at p; omega)), hm.frG hT (fun a j h1 h2 h3 h4 => f0 a j (by omega)), fun v v0 v1 => by rw [f0 69 v (by omega)]; exact p5 v v0 v1, ⟨zwr_s _ _ _ _, fun y => absurd rfl y⟩, Int.le_refl _⟩
  have f1 : ∀ a j, ¬ zPwg a j → M' a j = M a j := fun a j n => hM' a j n
  exact ⟨p1.fr (fun a j p => f1 a j (by unfold zPwg; omega)), fun _ => hf', fun _ => hw', fun c c0 cn cz x => (p4 c c0 cn cz (by rw [← f1 63 16 (by unfold zPwg; omega)]; exact x)).fr (fun a j p => f1 a j (by unfold zPwg; omega)), h69⟩
def ztel (T : zTb) (rm : Int) (rw : Int → Int) (w : Int) : Int := if (zte T rm rw 31).2.2 = 0 then -1 else if w = 0 then (zte T rm rw 31).1 else if w = 1 then (zte T rm rw 31).2.1 else if w = 2 then (zte T rm rw 31).2.2 else -1
theorem c_tells {G : zG} {h sl : Nat} (hsl : 1 ≤ sl) {T : zTb} {L : Int → Int} {t rm w : Int} {rw : Int → Int} {M : zM} {Q : Int → zM → Prop} (hP : zPu T L) (hC : zCk T L t M) (hR : zRw T rm rw) (hp : zPc T rm rw M) (q : ∀ M', zSm (zPp t) M M' → zCk T L t M' → zPc T rm rw M' → Q (ztel T rm rw w) M') : zCt G (h + 6) sl 0 0 y_Zt_tells [(2, 1), (0, w)] M Q := by
  have ht := hC.1
  refine E_Zt_tells hsl (c_reachT (n := 429) hsl hP hC (by decide) (fun M1 m hM1 hC1 hm hc => ?_))
  have hp1 : zPc T rm rw M1 := hp.fr (fun a j p => hM1 a j (by unfold zdPc at p; unfold zPR zPC zPLn zPO; omega))
  refine c_listFits (t := t) hsl hP.1 hR hp1 ⟨m, hm, hc⟩ (fun M2 hM2 hp2 hf2 h42 => ?_)
  have hC2 : zCk T L t M2 := hC1.fr hP.1 (fun a j p => hM2 a j (by unfold zdCk at p; unfold zPlf; omega))
  rw [hC2.2.1]
  refine c_weigh hsl hP.1 ht hp2 hf2 h42 hC2.2.2.1 (fun M3 hM3 hp3 hw3 => ?_)
  have hC3 : zCk T L t M3 := hC2.fr hP.1 (fun a j p => hM3 a j (by unfold zdCk at p; unfold zPwg; omega))
  have qq := q M3 ((((zPR_q8 hM1).mono (fun a j p => Or.inl p)).trans (hM2.mono (fun a j p => Or.inr (by unfold zPlf at p; omega)))).trans (hM3.mono (fun a j p => Or.inr (by unfold zPwg at p; omega)))) hC3 hp3
  unfold ztel at qq
  rw [hw3.1]
  refine ⟨fun g => ⟨fun g2 => ?_, fun g2 => ?_, fun g2 => ?_, fun g2 => ?_⟩, fun g => ?_⟩
  · rw [if_neg g, if_pos g2] at qq
    rw [(hw3.2 g).1]; exact qq
  · rw [if_neg g, if_neg (by omega), if_pos g2] at qq
    rw [(hw3.2 g).2]; exact qq
  · rw [if_neg g, if_neg (by omega), if_neg (by omega), if_pos g2] at qq; exact qq
  · rw [if_neg g, if_neg (by omega), if_neg (by omega), if_neg (by omega)] at qq; exact qq
  · rw [if_pos (by omega)] at qq; exact qq
