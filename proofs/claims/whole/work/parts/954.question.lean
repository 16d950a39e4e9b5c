/-! QUESTIONS: read, on both sides. -/
def zo_first : List Int := [102, 105, 114, 115, 116]
def zo_last : List Int := [108, 97, 115, 116]
def zo_often : List Int := [111, 102, 116, 101, 110]
def zo_total : List Int := [116, 111, 116, 97, 108]
def zo_most : List Int := [109, 111, 115, 116]
def zo_least : List Int := [108, 101, 97, 115, 116]
theorem zr_first : zWr (-64) zo_first := zWr_of 31 (by decide +kernel)
theorem zr_last : zWr (-66) zo_last := zWr_of 32 (by decide +kernel)
theorem zr_often : zWr (-68) zo_often := zWr_of 33 (by decide +kernel)
theorem zr_total : zWr (-70) zo_total := zWr_of 34 (by decide +kernel)
theorem zr_most : zWr (-72) zo_most := zWr_of 35 (by decide +kernel)
theorem zr_least : zWr (-74) zo_least := zWr_of 36 (by decide +kernel)
theorem zo_173 : zWo 173 zo_first := zWo_of (by decide +kernel)
theorem zo_174 : zWo 174 zo_last := zWo_of (by decide +kernel)
theorem zo_175 : zWo 175 zo_often := zWo_of (by decide +kernel)
theorem zo_176 : zWo 176 zo_total := zWo_of (by decide +kernel)
theorem zo_177 : zWo 177 zo_most := zWo_of (by decide +kernel)
theorem zo_178 : zWo 178 zo_least := zWo_of (by decide +kernel)
/-- the question's kind -/
def zqk (B : Int → Int) (n e : Nat) : Int := if zwrd B n e zo_first = true then 0 else if zwrd B n e zo_last = true then 1 else if zwrd B n e zo_often = true then 2 else if zwrd B n e zo_total = true then 3 else if zwrd B n e zo_most = true then 4 else if zwrd B n e zo_least = true then 5 else -1
def zTno : zTb := (fun _ _ => 0, fun _ => [])
/-- a question's kind and codes, or its fault -/
def zqst (B : Int → Int) (n : Nat) : zRs (Int × List Int) :=
  if zqk B n 0 = -1 then .inl (1, (zfr B n 0 : Nat))
  else zbd (if zqk B n 0 < 3 then ztestK 2 zTno 0 B n 6 (zto B n 0) else zsumK 2 zTno 0 B n 6 (zto B n 0)) (fun r => if zkd B n r.1 = 0 then .inr (zqk B n 0, r.2) else .inl (1, (zfr B n r.1 : Nat)))
theorem zqk_v (B : Int → Int) (n e : Nat) : zqk B n e = -1 ∨ (0 ≤ zqk B n e ∧ zqk B n e ≤ 5) ∧ zkd B n e = 1 := by
  unfold zqk
  by_cases c0 : zwrd B n e zo_first = true
  · rw [if_pos c0]; exact Or.inr ⟨by decide, (zwrd_k c0).1⟩
  · rw [if_neg c0]
    by_cases c1 : zwrd B n e zo_last = true
    · rw [if_pos c1]; exact Or.inr ⟨by decide, (zwrd_k c1).1⟩
    · rw [if_neg c1]
      by_cases c2 : zwrd B n e zo_often = true
      · rw [if_pos c2]; exact Or.inr ⟨by decide, (zwrd_k c2).1⟩
      · rw [if_neg c2]
        by_cases c3 : zwrd B n e zo_total = true
        · rw [if_pos c3]; exact Or.inr ⟨by decide, (zwrd_k c3).1⟩
        · rw [if_neg c3]
          by_cases c4 : zwrd B n e zo_most = true
          · rw [if_pos c4]; exact Or.inr ⟨by decide, (zwrd_k c4).1⟩
          · rw [if_neg c4]
            by_cases c5 : zwrd B n e zo_least = true
            · rw [if_pos c5]; exact Or.inr ⟨by decide, (zwrd_k c5).1⟩
            · rw [if_neg c5]; exact Or.inl rfl
theorem zqst_ok {B : Int → Int} {n : Nat} {kind : Int} {cs : List Int} (h : zqst B n = .inr (kind, cs)) : (0 ≤ kind ∧ kind ≤ 5) ∧ cs.length ≤ n ∧ zty zokQ cs [] = some [decide (kind < 3)] := by
  unfold zqst at h
  have hv := zqk_v B n 0
  by_cases c : zqk B n 0 = -1
  · rw [if_pos c] at h; nomatch h
  · rw [if_neg c] at h
    have hv : (0 ≤ zqk B n 0 ∧ zqk B n 0 ≤ 5) ∧ zkd B n 0 = 1 := by
      rcases hv with a | a
      · exact absurd a c
      · exact a
    have hb := zto_b (B := B) (n := n) (e := 0) (by omega)
    obtain ⟨⟨e', D⟩, h1, h⟩ := zbd_inv h
    have h : (if zkd B n e' = 0 then (.inr (zqk B n 0, D) : zRs (Int × List Int)) else .inl (1, (zfr B n e' : Nat))) = .inr (kind, cs) := h
    by_cases d : zkd B n e' = 0
    · rw [if_pos d] at h
      injection h with h; injection h with h2 h3
      subst h2; subst h3
      have ek : zokM 2 0 = zokQ := by unfold zokM; rw [if_pos rfl]
      by_cases k3 : zqk B n 0 < 3
      · rw [if_pos k3] at h1
        have g := ztestK_gd (m := 0) (by omega) hb.2.1 h1
        rw [ek] at g
        exact ⟨hv.1, by omega, by rw [decide_eq_true k3]; exact g.2.2⟩
      · rw [if_neg k3] at h1
        have g := zsumK_gd (m := 0) (by omega) hb.2.1 h1
        rw [ek] at g
        exact ⟨hv.1, by omega, by rw [decide_eq_false k3]; exact g.2.2⟩
    · rw [if_neg d] at h; nomatch h
theorem c_questionHere {G : zG} {h sl : Nat} (hsl : 1 ≤ sl) {B : Int → Int} {n e : Nat} {M : zM} {Q : Int → zM → Prop} (hn : n ≤ 1600) (he : e ≤ n) (hr : zRd B n e M) (q1 : ¬ zqk B n e = -1 → ∀ M', zSm zPrs M M' → zRd B n (zto B n e) M' → Q (zqk B n e) M') (q0 : zqk B n e = -1 → Q (-1) M) : zCt G (h + 6) sl 0 0 y_Reader_questionHere [(2, 72)] M Q := by
  unfold zqk at q0 q1
  refine E_Reader_questionHere hsl (c_tryW hsl hn he hr zr_first (fun c M1 h1 g1 => ⟨fun y => absurd y (by decide), fun _ => by rw [if_pos c] at q1; exact q1 (by decide) M1 h1 g1⟩) (fun c => ⟨fun _ => ?_, fun y => absurd rfl y⟩))
  rw [if_neg c] at q0 q1
  refine c_tryW hsl hn he hr zr_last (fun c M1 h1 g1 => ⟨fun y => absurd y (by decide), fun _ => by rw [if_pos c] at q1; exact q1 (by decide) M1 h1 g1⟩) (fun c => ⟨fun _ => ?_, fun y => absurd rfl y⟩)
  rw [if_neg c] at q0 q1
  refine c_tryW hsl hn he hr zr_often (fun c M1 h1 g1 => ⟨fun y => absurd y (by decide), fun _ => by rw [if_pos c] at q1; exact q1 (by decide) M1 h1 g1⟩) (fun c => ⟨fun _ => ?_, fun y => absurd rfl y⟩)
  rw [if_neg c] at q0 q1
  refine c_tryW hsl hn he hr zr_total (fun c M1 h1 g1 => ⟨fun y => absurd y (by decide), fun _ => by rw [if_pos c] at q1; exact q1 (by decide) M1 h1 g1⟩) (fun c => ⟨fun _ => ?_, fun y => absurd rfl y⟩)
  rw [if_neg c] at q0 q1
  refine c_tryW hsl hn he hr zr_most (fun c M1 h1 g1 => ⟨fun y => absurd y (by decide), fun _ => by rw [if_pos c] at q1; exact q1 (by decide) M1 h1 g1⟩) (fun c => ⟨fun _ => ?_, fun y => absurd rfl y⟩)
  rw [if_neg c] at q0 q1
  refine c_tryW hsl hn he hr zr_least (fun c M1 h1 g1 => ⟨fun y => absurd y (by decide), fun _ => by rw [if_pos c] at q1; exact q1 (by decide) M1 h1 g1⟩) (fun c => ⟨fun _ => ?_, fun y => absurd rfl y⟩)
  rw [if_neg c] at q0
  exact q0 rfl
def zPst : Int → Int → Prop := fun a k => a = 72 ∧ (k = 3 ∨ k = 4 ∨ 8 ≤ k ∧ k ≤ 11)
theorem c_start {G : zG} {h sl : Nat} (hsl : 1 ≤ sl) {B : Int → Int} {n : Nat} {M : zM} {Q : Int → zM → Prop} (hn : n ≤ 1600) (h2 : M 2 1 = n) (h3 : zAr M 3 n B) (q : ∀ M', zSm zPst M M' → M' 72 8 = 0 → zRd B n 0 M' → Q 0 M') : zCt G (h + 2) sl 0 0 y_Reader_start [(2, 72)] M Q := by
  have s1 : zSm zPst M (zwr (zwr (zwr (zwr M 72 3 0) 72 4 (-1)) 72 11 0) 72 8 0) := ((((zSm.refl _ M).wr ⟨rfl, by decide⟩).wr ⟨rfl, by decide⟩).wr ⟨rfl, by decide⟩).wr ⟨rfl, by decide⟩
  have hx : zRx B n (zwr (zwr (zwr (zwr M 72 3 0) 72 4 (-1)) 72 11 0) 72 8 0) := ⟨⟨by rw [s1 _ _ (by unfold zPst; omega)]; exact h2, by rw [zwr_k _ (by decide), zwr_k _ (by decide), zwr_s]⟩, h3.fr (fun k => s1 _ _ (by unfold zPst; omega)), by rw [zwr_k _ (by decide), zwr_k _ (by decide), zwr_k _ (by decide), zwr_s]⟩
  refine E_Reader_start hsl (c_advance hsl hn (by omega) hx (by rw [zwr_k _ (by decide), zwr_s]; rfl) (fun M1 h1 g1 => q M1 (s1.trans (h1.mono (fun a k p => by unfold zPlx at p; unfold zPst; omega))) (by rw [h1 _ _ (by unfold zPlx; omega), zwr_s]) g1))
def zPrq : Int → Int → Prop := fun a k => a = 72 ∧ (k = 2 ∨ k = 3 ∨ k = 4 ∨ 6 ≤ k ∧ k ≤ 11) ∨ a = 73 ∧ k = 2 ∨ a = 74
theorem c_readQuestion {G : zG} {h sl : Nat} (hsl : 1 ≤ sl) {B : Int → Int} {n : Nat} {M : zM} {Q : Int → zM → Prop} (hn : n ≤ 1600) (h2 : M 2 1 = n) (h3 : zAr M 3 n B) (qo : ∀ kind cs, zqst B n = .inr (kind, cs) → ∀ M', zSm zPrq M M' → M' 72 2 = kind → M' 72 3 = 0 → M' 72 4 = -1 → M' 73 2 = cs.length → zSeg true M' 74 0 cs → Q 1 M') (qn : ∀ f p, zqst B n = .inl (f, p) → ∀ M', zSm zPrq M M' → M' 72 3 = f → M' 72 4 = p → Q 0 M') : zCt G (h + 40) sl 0 0 y_Reader_readQuestion [(2, 72)] M Q := by
  unfold zqst at qo qn
  have hc : zcob 73 := Or.inl rfl
  have mst : ∀ {M1 M2 : zM}, zSm zPst M1 M2 → zSm zPrq M1 M2 := fun hh => hh.mono (fun a k p => by unfold zPst at p; unfold zPrq; omega)
  have mrs : ∀ {M1 M2 : zM}, zSm zPrs M1 M2 → zSm zPrq M1 M2 := fun hh => hh.mono (fun a k p => by unfold zPrs at p; unfold zPrq; omega)
  have mrp : ∀ {M1 M2 : zM}, zSm (zPrp 73) M1 M2 → zSm zPrq M1 M2 := fun hh => hh.mono (fun a k p => by unfold zPrp at p; unfold zPrq; omega)
  refine E_Reader_readQuestion hsl ⟨by rw [zwr_s]; decide, ?_⟩
  rw [zwr_s]
  have s1 : zSm zPrq M (zwr (zwr (zwr M 72 6 73) 73 2 0) 72 7 1) := (((zSm.refl _ M).wr (Or.inl ⟨rfl, by decide⟩)).wr (Or.inr (Or.inl ⟨rfl, rfl⟩))).wr (Or.inl ⟨rfl, by decide⟩)
  have e6 : (zwr (zwr (zwr M 72 6 73) 73 2 0) 72 7 1) 72 6 = 73 := by rw [zwr_k _ (by decide), zwr_o _ (by decide), zwr_s]
  have e7 : (zwr (zwr (zwr M 72 6 73) 73 2 0) 72 7 1) 72 7 = 1 := zwr_s _ _ _ _
  have e73 : (zwr (zwr (zwr M 72 6 73) 73 2 0) 72 7 1) 73 2 = 0 := by rw [zwr_o _ (by decide), zwr_s]
  refine c_start (h := h + 37) hsl hn (by rw [s1 _ _ (by unfold zPrq; omega)]; exact h2) (h3.fr (fun k => s1 _ _ (by unfold zPrq; omega))) (fun M1 h1 e8 g1 => ?_)
  have hb := zto_b (B := B) (n := n) (e := 0) (by omega)
  refine c_questionHere (h := h + 33) hsl hn (by omega) g1 (fun ck M2 hm2 g2 => ?_) (fun ck => ?_)
  · have hv : 0 ≤ zqk B n 0 ∧ zqk B n 0 ≤ 5 := by
      rcases zqk_v B n 0 with a | a
      · exact absurd a ck
      · exact a.1
    rw [if_neg ck] at qo qn
    rw [zwr_s]
    refine ⟨fun _ => ?_, fun y => absurd (Classical.byContradiction y) ck⟩
    have z2 : zSm zPrq M (zwr M2 72 2 (zqk B n 0)) := ((s1.trans (mst h1)).trans (mrs hm2)).wr (Or.inl ⟨rfl, by decide⟩)
    have up : ∀ a k, ¬ (a = 72 ∧ (k = 2 ∨ k = 3 ∨ k = 4 ∨ 8 ≤ k ∧ k ≤ 11)) → (zwr M2 72 2 (zqk B n 0)) a k = (zwr (zwr (zwr M 72 6 73) 73 2 0) 72 7 1) a k := fun a k p => by
      rw [zwr_i, if_neg (by omega), hm2 _ _ (by unfold zPrs; omega), h1 _ _ (by unfold zPst; omega)]
    have hr : zRp 2 zTno 0 0 73 B n 0 (zto B n 0) [] (zwr M2 72 2 (zqk B n 0)) := by
      refine ⟨g2.fr (fun a k p => by rw [zwr_i, if_neg (by omega)]), ⟨?_, ?_, ?_⟩, ⟨?_, trivial⟩, fun y => absurd rfl y⟩
      · rw [up _ _ (by omega)]; exact e6
      · rw [up _ _ (by omega)]; exact e7
      · rw [zwr_k _ (by decide), hm2 _ _ (by unfold zPrs; omega), e8]; rfl
      · rw [up _ _ (by omega), e73]; rfl
    -- the end of the text
    have fin : ∀ (e' : Nat) (D : List Int) (M3 : zM), e' ≤ n → zSm (zPrp 73) (zwr M2 72 2 (zqk B n 0)) M3 → zRp 2 zTno 0 0 73 B n 0 e' D M3 → (if zqk B n 0 < 3 then ztestK 2 zTno 0 B n 6 (zto B n 0) else zsumK 2 zTno 0 B n 6 (zto B n 0)) = .inr (e', D) → zX G (y_Reader_readQuestion, h + 39 + 1, sl) (0, 0, 0, 0) 67 [(0, (2, 72))] [(0, 1)] M3 Q := fun e' D M3 he' h4 g4 hz => by
      have z3 := z2.trans (mrp h4)
      refine B_Reader_readQuestion_67 hsl ⟨fun y => absurd y (by decide), fun _ => ?_⟩
      rw [g4.1.2.2.1]
      refine ⟨fun d => qo (zqk B n 0) D ?_ M3 z3 ?_ g4.1.1.2.2 g4.1.1.1.2 ?_ g4.2.2.1.2, fun d => c_unfit0 (h := h + 38) hsl g4.1 (fun M4 h5 a1 => ⟨fun _ => qn _ _ ?_ M4 (z3.trans (mrs h5)) a1.1 a1.2, fun y => absurd rfl y⟩)⟩
      · rw [hz, zbd_ok]; show (if zkd B n e' = 0 then _ else _) = _; rw [if_pos d]
      · rw [h4 _ _ (by unfold zPrp; omega), zwr_s]
      · rw [g4.2.2.1.1]; simp
      · rw [hz, zbd_ok]; show (if zkd B n e' = 0 then _ else _) = _; rw [if_neg d]
    refine ⟨fun k3 => ?_, fun k3 => ?_⟩
    · have hS := c_sumK (G := G) (md := 2) (T := zTno) (m := 0) (t := 0) (c := 73) (B := B) (n := n) (s := 0) hsl hn (by omega) hc 6 (by omega)
      rw [show (6 : Int) - ((6 : Nat) : Int) = 0 from by omega] at hS
      rw [if_neg (by omega)] at qo qn fin
      refine hS (h + 39) (by omega) _ [] _ _ hb.2.1 (by simp) hr (fun e' D hz M3 h4 g4 => fin e' D M3 (zsumK_gd (by omega) hb.2.1 hz).2.1 h4 g4 hz) (fun f p hz M3 h4 a1 a2 a3 => B_Reader_readQuestion_67 hsl ⟨fun _ => qn f p (by rw [hz, zbd_no]) M3 (z2.trans (mrp h4)) a1.1 a1.2, fun y => absurd rfl y⟩)
    · have hS := c_testK (G := G) (md := 2) (T := zTno) (m := 0) (t := 0) (c := 73) (B := B) (n := n) (s := 0) hsl hn (by omega) hc 6 (by omega)
      rw [show (6 : Int) - ((6 : Nat) : Int) = 0 from by omega] at hS
      rw [if_pos (by omega)] at qo qn fin
      refine hS (h + 39) (by omega) _ [] _ _ hb.2.1 (by simp) hr (fun e' D hz M3 h4 g4 => fin e' D M3 (ztestK_gd (by omega) hb.2.1 hz).2.1 h4 g4 hz) (fun f p hz M3 h4 a1 a2 a3 => B_Reader_readQuestion_67 hsl ⟨fun _ => qn f p (by rw [hz, zbd_no]) M3 (z2.trans (mrp h4)) a1.1 a1.2, fun y => absurd rfl y⟩)
  · rw [if_pos ck] at qn
    rw [zwr_s]
    refine ⟨fun y => absurd rfl y, fun _ => c_unfit0 (h := h + 38) hsl (B := B) (n := n) (e := 0) (g1.fr (fun a k p => by rw [zwr_i, if_neg (by omega)])) (fun M4 h5 a1 => qn _ _ rfl M4 (((s1.trans (mst h1)).wr (Or.inl ⟨rfl, by decide⟩)).trans (mrs h5)) a1.1 a1.2)⟩
