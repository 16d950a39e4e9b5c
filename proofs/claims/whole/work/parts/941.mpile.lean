/-! PARSER, the Model's machine: what waits. -/
/-- at e, codes C, waiting W (the last first), base bs, op open -/
def zQs (md : Int) (T : zTb) (m : Nat) (B : Int → Int) (n bs e : Nat) (C W : List Int) (op : Int) (M : zM) : Prop :=
  zMd B n e M ∧ (M 125 90 = (C.length : Int) ∧ zSg M 193 0 C) ∧ (M 125 92 = (W.length : Int) ∧ zSk M 194 W) ∧ (M 125 93 = op ∧ M 125 94 = (bs : Int) ∧ M 125 50 = md) ∧ (¬ md = 2 → zNn T m M)
def zPmq : Int → Int → Prop := fun a k => a = 125 ∧ (k = 2 ∨ k = 4 ∨ k = 5 ∨ k = 6 ∨ k = 10 ∨ k = 41 ∨ k = 90 ∨ k = 92 ∨ k = 93 ∨ k = 94) ∨ a = 193 ∨ a = 194
theorem zPmt_q {M M' : zM} (h : zSm zPmt M M') : zSm zPmq M M' := h.mono (fun a k p => by unfold zPmt at p; unfold zPmq; omega)
theorem zPwl_q {M M' : zM} (h : zSm zPwl M M') : zSm zPmq M M' := zPmt_q (zPwl_mt h)
theorem zNn.fr {T : zTb} {m : Nat} {M M' : zM} (e : zSm zPmq M M') (h : zNn T m M) : zNn T m M' := ⟨by rw [e _ _ (by unfold zPmq; omega)]; exact h.1, fun c a b => by rw [e _ _ (by unfold zPmq; omega)]; exact h.2 c a b⟩
theorem zSk_eq {M M' : zM} {s : Int} (e : ∀ j, M' s j = M s j) : ∀ {W : List Int}, zSk M s W → zSk M' s W
  | [], _ => trivial
  | x :: r, h => ⟨by rw [e]; exact h.1, zSk_eq e h.2⟩
/-- only the place in the text changed -/
theorem zQs.mv {md : Int} {T : zTb} {m : Nat} {B : Int → Int} {n bs e e' : Nat} {C W : List Int} {op : Int} {M M' : zM} (h : zQs md T m B n bs e C W op M) (hM : zSm zPmt M M') (hx : zMd B n e' M') : zQs md T m B n bs e' C W op M' := by
  obtain ⟨a, b, c, d, f⟩ := h
  have e1 : ∀ k, 42 ≤ k → M' 125 k = M 125 k := fun k hk => hM _ _ (by unfold zPmt; omega)
  unfold zQs
  rw [e1 90 (by decide), e1 92 (by decide), e1 93 (by decide), e1 94 (by decide), e1 50 (by decide)]
  exact ⟨hx, ⟨b.1, zSg_eq (fun j => hM _ _ (by unfold zPmt; omega)) b.2⟩, ⟨c.1, zSk_eq (fun j => hM _ _ (by unfold zPmt; omega)) c.2⟩, d, fun g => (f g).fr (zPmt_q hM)⟩
theorem zSg_ap {M : zM} {a v : Int} : ∀ {cs : List Int} {i : Int}, zSg M a i cs → M a (i + cs.length) = v → zSg M a i (cs ++ [v])
  | [], i, _, h => ⟨by rw [← h]; simp, trivial⟩
  | x :: r, i, h, g => ⟨h.1, zSg_ap h.2 (by rw [show i + 1 + (r.length : Int) = i + ((x :: r).length : Int) from by simp only [List.length_cons]; omega]; exact g)⟩
theorem zSg_lo {M M' : zM} {a : Int} : ∀ {cs : List Int} {i : Int}, (∀ k, k < i + cs.length → M' a k = M a k) → zSg M a i cs → zSg M' a i cs
  | [], _, _, _ => trivial
  | x :: r, i, e, h => ⟨by rw [e i (by simp only [List.length_cons]; omega)]; exact h.1, zSg_lo (fun k hk => e k (by simp only [List.length_cons]; omega)) h.2⟩
theorem m_qCode {G : zG} {h sl : Nat} (hsl : 2 ≤ sl) {md : Int} {T : zTb} {m : Nat} {B : Int → Int} {n bs e : Nat} {C W : List Int} {op v : Int} {M : zM} {Q : Int → zM → Prop} (hr : zQs md T m B n bs e C W op M) (hl : C.length < 1700) (q : ∀ M', zSm zPmq M M' → zQs md T m B n bs e (C ++ [v]) W op M' → Q 0 M') : zCt G h sl 0 0 y_Md_qCode [(2, 125), (0, v)] M Q := by
  obtain ⟨a, b, c, d, f⟩ := hr
  refine E_Md_qCode hsl ?_
  rw [zwr_o _ (by decide), b.1]
  have sM : zSm zPmq M (zwr (zwr M 193 (C.length : Int) v) 125 90 ((C.length : Int) + 1)) := ((zSm.refl _ M).wr (Or.inr (Or.inl rfl))).wr (Or.inl ⟨rfl, by decide⟩)
  refine ⟨by omega, by unfold zI; omega, q _ sM ⟨a.fr (fun a k p => by rw [zwr_i, if_neg (by omega), zwr_i, if_neg (by omega)]), ⟨?_, zSg_ap ?_ ?_⟩, ⟨?_, zSk_eq (fun j => by rw [zwr_o _ (by decide), zwr_o _ (by decide)]) c.2⟩, ?_, fun g => (f g).fr sM⟩⟩
  · rw [zwr_s]; simp only [List.length_append, List.length_cons, List.length_nil]; omega
  · exact zSg_lo (fun k hk => by rw [zwr_o _ (by decide), zwr_k _ (by omega)]) b.2
  · rw [zwr_o _ (by decide), show (0 : Int) + (C.length : Int) = (C.length : Int) from by omega, zwr_s]
  · rw [zwr_k _ (by decide), zwr_o _ (by decide)]; exact c.1
  · rw [zwr_k (b := 93) _ (by decide), zwr_o _ (by decide), zwr_k (b := 94) _ (by decide), zwr_o _ (by decide), zwr_k (b := 50) _ (by decide), zwr_o _ (by decide)]; exact d
theorem m_qDrops {G : zG} {h sl : Nat} (hsl : 2 ≤ sl) {md : Int} {T : zTb} {m : Nat} {B : Int → Int} {n bs e : Nat} {C W : List Int} {op v : Int} {M : zM} {Q : Int → zM → Prop} (hr : zQs md T m B n bs e C (v :: W) op M) (hl : C.length + W.length < 1699) (q : ∀ M', zSm zPmq M M' → zQs md T m B n bs e (C ++ [v]) W op M' → Q 0 M') : zCt G (h + 1) sl 0 0 y_Md_qDrops [(2, 125)] M Q := by
  obtain ⟨a, b, c, d, f⟩ := hr
  have c1 : M 125 92 = (W.length : Int) + 1 := by rw [c.1]; simp only [List.length_cons]; omega
  refine E_Md_qDrops hsl ?_
  rw [zwr_s, c1, zwr_o _ (by decide), show (W.length : Int) + 1 - 1 = (W.length : Int) from by omega, c.2.1]
  have sM : zSm zPmq M (zwr M 125 92 (W.length : Int)) := (zSm.refl _ M).wr (Or.inl ⟨rfl, by decide⟩)
  have hr2 : zQs md T m B n bs e C W op (zwr M 125 92 (W.length : Int)) := by
    refine ⟨a.fr (fun a k p => by rw [zwr_i, if_neg (by omega)]), ⟨?_, zSg_eq (fun j => by rw [zwr_o _ (by decide)]) b.2⟩, ⟨zwr_s _ _ _ _, zSk_eq (fun j => by rw [zwr_o _ (by decide)]) c.2.2⟩, ?_, fun g => (f g).fr sM⟩
    · rw [zwr_k _ (by decide)]; exact b.1
    · rw [zwr_k _ (by decide), zwr_k _ (by decide), zwr_k _ (by decide)]; exact d
  exact ⟨by unfold zI; omega, by omega, m_qCode hsl hr2 (by omega) (fun M' hM' h' => q M' (sM.trans hM') h')⟩
/-- one more waits -/
theorem zQs.push {md : Int} {T : zTb} {m : Nat} {B : Int → Int} {n bs e : Nat} {C W : List Int} {op v : Int} {M : zM} (hr : zQs md T m B n bs e C W op M) : zSm zPmq M (zwr (zwr M 194 (W.length : Int) v) 125 92 ((W.length : Int) + 1)) ∧ zQs md T m B n bs e C (v :: W) op (zwr (zwr M 194 (W.length : Int) v) 125 92 ((W.length : Int) + 1)) := by
  obtain ⟨a, b, c, d, f⟩ := hr
  have sM : zSm zPmq M (zwr (zwr M 194 (W.length : Int) v) 125 92 ((W.length : Int) + 1)) := ((zSm.refl _ M).wr (Or.inr (Or.inr rfl))).wr (Or.inl ⟨rfl, by decide⟩)
  refine ⟨sM, a.fr (fun a k p => by rw [zwr_i, if_neg (by omega), zwr_i, if_neg (by omega)]), ⟨?_, zSg_eq (fun j => by rw [zwr_o _ (by decide), zwr_o _ (by decide)]) b.2⟩, ⟨?_, ?_, ?_⟩, ?_, fun g => (f g).fr sM⟩
  · rw [zwr_k _ (by decide), zwr_o _ (by decide)]; exact b.1
  · rw [zwr_s]; simp only [List.length_cons]; omega
  · rw [zwr_o _ (by decide), zwr_s]
  · exact zSk_eq (fun j => by rw [zwr_o _ (by decide)]) (zSk_wr c.2 (by omega))
  · rw [zwr_k (b := 93) _ (by decide), zwr_o _ (by decide), zwr_k (b := 94) _ (by decide), zwr_o _ (by decide), zwr_k (b := 50) _ (by decide), zwr_o _ (by decide)]; exact d
/-- how many are open -/
theorem zQs.op {md : Int} {T : zTb} {m : Nat} {B : Int → Int} {n bs e : Nat} {C W : List Int} {op v : Int} {M : zM} (hr : zQs md T m B n bs e C W op M) : zSm zPmq M (zwr M 125 93 v) ∧ zQs md T m B n bs e C W v (zwr M 125 93 v) := by
  obtain ⟨a, b, c, d, f⟩ := hr
  have sM : zSm zPmq M (zwr M 125 93 v) := (zSm.refl _ M).wr (Or.inl ⟨rfl, by decide⟩)
  refine ⟨sM, a.fr (fun a k p => by rw [zwr_i, if_neg (by omega)]), ⟨?_, zSg_eq (fun j => by rw [zwr_o _ (by decide)]) b.2⟩, ⟨?_, zSk_eq (fun j => by rw [zwr_o _ (by decide)]) c.2⟩, ?_, fun g => (f g).fr sM⟩
  · rw [zwr_k _ (by decide)]; exact b.1
  · rw [zwr_k _ (by decide)]; exact c.1
  · rw [zwr_s, zwr_k _ (by decide), zwr_k _ (by decide)]; exact ⟨rfl, d.2⟩
/-- the last one that waits is gone -/
theorem zQs.pop {md : Int} {T : zTb} {m : Nat} {B : Int → Int} {n bs e : Nat} {C W : List Int} {op v : Int} {M : zM} (hr : zQs md T m B n bs e C (v :: W) op M) : zSm zPmq M (zwr M 125 92 (W.length : Int)) ∧ zQs md T m B n bs e C W op (zwr M 125 92 (W.length : Int)) := by
  obtain ⟨a, b, c, d, f⟩ := hr
  have sM : zSm zPmq M (zwr M 125 92 (W.length : Int)) := (zSm.refl _ M).wr (Or.inl ⟨rfl, by decide⟩)
  refine ⟨sM, a.fr (fun a k p => by rw [zwr_i, if_neg (by omega)]), ⟨?_, zSg_eq (fun j => by rw [zwr_o _ (by decide)]) b.2⟩, ⟨zwr_s _ _ _ _, zSk_eq (fun j => by rw [zwr_o _ (by decide)]) c.2.2⟩, ?_, fun g => (f g).fr sM⟩
  · rw [zwr_k _ (by decide)]; exact b.1
  · rw [zwr_k _ (by decide), zwr_k _ (by decide), zwr_k _ (by decide)]; exact d
/-- another base -/
theorem zQs.base {md : Int} {T : zTb} {m : Nat} {B : Int → Int} {n bs e : Nat} {C W : List Int} {op : Int} {M : zM} (hr : zQs md T m B n bs e C W op M) {v : Int} {b2 : Nat} (hv : v = (b2 : Int)) : zSm zPmq M (zwr M 125 94 v) ∧ zQs md T m B n b2 e C W op (zwr M 125 94 v) := by
  obtain ⟨a, b, c, d, f⟩ := hr
  have sM : zSm zPmq M (zwr M 125 94 v) := (zSm.refl _ M).wr (Or.inl ⟨rfl, by decide⟩)
  refine ⟨sM, a.fr (fun a k p => by rw [zwr_i, if_neg (by omega)]), ⟨?_, zSg_eq (fun j => by rw [zwr_o _ (by decide)]) b.2⟩, ⟨?_, zSk_eq (fun j => by rw [zwr_o _ (by decide)]) c.2⟩, ?_, fun g => (f g).fr sM⟩
  · rw [zwr_k _ (by decide)]; exact b.1
  · rw [zwr_k _ (by decide)]; exact c.1
  · rw [zwr_s, zwr_k _ (by decide), zwr_k _ (by decide)]; exact ⟨d.1, hv, d.2.2⟩
theorem m_qIsOn {G : zG} {h sl : Nat} (hsl : 2 ≤ sl) {md : Int} {T : zTb} {m : Nat} {B : Int → Int} {n bs e : Nat} {C W : List Int} {op x : Int} {M : zM} {Q : Int → zM → Prop} (hr : zQs md T m B n bs e C W op M) (hl : W.length ≤ 1700) (q1 : W.head? = some x → Q 1 M) (q0 : ¬ W.head? = some x → Q 0 M) : zCt G h sl 0 0 y_Md_qIsOn [(2, 125), (0, x)] M Q := by
  obtain ⟨a, b, c, d, f⟩ := hr
  refine E_Md_qIsOn hsl ?_
  cases W with
  | nil =>
    rw [c.1]
    exact ⟨fun _ => q0 (by intro y; nomatch y), fun y => absurd (by decide) y⟩
  | cons v r =>
    have c1 : M 125 92 - 1 = (r.length : Int) := by rw [c.1]; simp only [List.length_cons]; omega
    have c2 : ¬ M 125 92 ≤ 0 := by omega
    simp only [List.length_cons] at hl
    refine ⟨fun y => absurd y c2, fun _ => ?_⟩
    rw [c1, c.2.1]
    exact ⟨by unfold zI; omega, by omega, fun g => q0 (by intro y; injection y with y; exact g y), fun g => q1 (by rw [List.head?_cons, Classical.byContradiction g])⟩
/-- the bracket that is open last above the base; -1 -/
def zbr (bs : Nat) : List Int → Int
  | [] => -1
  | x :: r => if r.length < bs then -1 else if 20 ≤ x ∧ x ≤ 24 then x else zbr bs r
theorem m_qIsBracket {G : zG} {h sl : Nat} (hsl : 2 ≤ sl) {x : Int} {M : zM} {Q : Int → zM → Prop} (q1 : 20 ≤ x ∧ x ≤ 24 → Q 1 M) (q0 : ¬ (20 ≤ x ∧ x ≤ 24) → Q 0 M) : zCt G h sl 0 0 y_Md_qIsBracket [(0, x)] M Q :=
  E_Md_qIsBracket hsl ⟨fun g => q0 (by omega), fun g => ⟨fun g2 => q0 (by omega), fun g2 => q1 (by omega)⟩⟩
theorem m_qBracketL {G : zG} {h sl : Nat} (hsl : 2 ≤ sl) {bs : Nat} {M : zM} {Q : Int → zM → Prop} (hb : M 125 94 = (bs : Int)) : ∀ (W : List Int) u, W.length ≤ 1700 → zSk M 194 W → Q (zbr bs W) M → zX G (y_Md_qBracket, h + 1, sl) u 7 [(0, (2, 125)), (1, (0, (W.length : Int) - 1))] [] M Q
  | [], u, hl, hk, q => by
    refine B_Md_qBracket_7 hsl ?_
    rw [hb]
    refine ⟨fun _ => B_Md_qBracket_33 hsl ?_, fun g => absurd (by simp only [List.length_nil]; omega) g⟩
    rw [hb]
    exact ⟨fun _ => q, fun g => absurd (by simp only [List.length_nil]; omega) g⟩
  | x :: r, u, hl, hk, q => by
    rw [show ((x :: r).length : Int) - 1 = (r.length : Int) from by simp only [List.length_cons]; omega]
    simp only [List.length_cons] at hl
    have q : Q (if r.length < bs then -1 else if 20 ≤ x ∧ x ≤ 24 then x else zbr bs r) M := q
    refine B_Md_qBracket_7 hsl ?_
    rw [hb]
    refine ⟨fun g => B_Md_qBracket_33 hsl ?_, fun g => ⟨by omega, ?_⟩⟩
    · rw [hb]
      rw [if_pos (by omega)] at q
      exact ⟨fun _ => q, fun g2 => absurd g g2⟩
    · rw [hk.1]
      rw [if_neg (by omega)] at q
      refine m_qIsBracket hsl (fun g2 => ⟨fun _ => B_Md_qBracket_33 hsl ?_, fun y => absurd (by decide) y⟩) (fun g2 => ⟨fun y => absurd rfl y, fun _ => ⟨by unfold zI; omega, ?_⟩⟩)
      · rw [hb, hk.1]
        rw [if_pos g2] at q
        exact ⟨fun g3 => absurd g3 g, fun _ => ⟨by omega, q⟩⟩
      · rw [if_neg g2] at q
        exact m_qBracketL hsl hb r u (by omega) hk.2 q
theorem m_qBracket {G : zG} {h sl : Nat} (hsl : 2 ≤ sl) {md : Int} {T : zTb} {m : Nat} {B : Int → Int} {n bs e : Nat} {C W : List Int} {op : Int} {M : zM} {Q : Int → zM → Prop} (hr : zQs md T m B n bs e C W op M) (hl : W.length ≤ 1700) (q : Q (zbr bs W) M) : zCt G (h + 1) sl 0 0 y_Md_qBracket [(2, 125)] M Q := by
  obtain ⟨a, b, c, d, f⟩ := hr
  refine E_Md_qBracket hsl ?_
  rw [c.1]
  exact ⟨by unfold zI; omega, m_qBracketL hsl d.2.1 W _ hl c.2 q⟩
