theorem ztq_case {ok : Int → Bool} {E : (Int → Int) × (Int → Int → Int)} {v : Int} {ts t1 : List Bool} {st : List Int} (hq : ztq ok v ts = some t1) (hv : zvt ts st) (hl : ts.length ≤ 64) : t1.length ≤ 64 ∧
    ((1000 ≤ v ∧ v ≤ 10999 ∧ zst E v st = (v - 1000) :: st) ∨ (60 ≤ v ∧ v ≤ 61 ∧ ok v = true ∧ ∃ a r, st = a :: r ∧ (-1000000 ≤ a ∧ a ≤ 1000000) ∧ zst E v st = E.2 (v - 60) a :: r) ∨
      (40 ≤ v ∧ v < 60 ∧ ok v = true ∧ zst E v st = E.1 (v - 40) :: st) ∨ (v = 13 ∧ zst E v st = 1 :: st) ∨ (v = 12 ∧ ∃ a r, st = a :: r ∧ (a = 0 ∨ a = 1) ∧ zst E v st = (1 - a) :: r) ∨
      (1 ≤ v ∧ v ≤ 11 ∧ ∃ a b r, st = a :: b :: r ∧ (v ≤ 9 → (-1000000 ≤ b ∧ b ≤ 1000000) ∧ (-1000000 ≤ a ∧ a ≤ 1000000)) ∧ (10 ≤ v → (b = 0 ∨ b = 1) ∧ (a = 0 ∨ a = 1)) ∧ zst E v st = zop v b a :: r)) := by
  unfold ztq at hq
  split at hq
  · rename_i g1
    split at hq
    · rename_i g2
      injection hq with hq
      subst hq
      exact ⟨by simp; omega, Or.inl ⟨g1, g2.1, by cases st <;> simp only [zst, if_pos g1]⟩⟩
    · cases hq
  rename_i n1
  split at hq
  · rename_i g1
    split at hq
    · rename_i g2
      injection hq with hq
      subst hq
      refine ⟨hl, Or.inr (Or.inl ⟨g1, g2.2.1, g2.1, ?_⟩)⟩
      match ts, st, g2, hv with
      | t :: ts, a :: st, g2, hv =>
        have : t = false := by simpa using g2.2.2
        subst this
        exact ⟨a, st, rfl, by simpa using hv.1, by simp only [zst, if_neg n1, if_pos g1]⟩
      | [], _, g2, _ => simp at g2
      | _ :: _, [], _, hv => exact hv.elim
    · cases hq
  rename_i n2
  split at hq
  · rename_i g1
    split at hq
    · rename_i g2
      injection hq with hq
      subst hq
      exact ⟨by simp; omega, Or.inr (Or.inr (Or.inl ⟨g1, by omega, g2.1, by cases st <;> simp only [zst, if_neg n1, if_neg n2, if_pos g1]⟩))⟩
    · cases hq
  rename_i n3
  split at hq
  · rename_i g1
    split at hq
    · injection hq with hq
      subst hq
      exact ⟨by simp; omega, Or.inr (Or.inr (Or.inr (Or.inl ⟨g1, by cases st <;> simp only [zst, if_neg n1, if_neg n2, if_neg n3, if_pos g1]⟩)))⟩
    · cases hq
  rename_i n4
  split at hq
  · rename_i g1
    split at hq
    · rename_i g2
      injection hq with hq
      subst hq
      refine ⟨hl, Or.inr (Or.inr (Or.inr (Or.inr (Or.inl ⟨g1, ?_⟩))))⟩
      match ts, st, g2, hv with
      | t :: ts, a :: st, g2, hv =>
        have : t = true := by simpa using g2
        subst this
        exact ⟨a, st, rfl, by simpa using hv.1, by simp only [zst, if_neg n1, if_neg n2, if_neg n3, if_neg n4, if_pos g1]⟩
      | [], _, g2, _ => simp at g2
      | _ :: _, [], _, hv => exact hv.elim
    · cases hq
  rename_i n5
  split at hq
  · cases hq
  rename_i n6
  have fin : ∀ {a b : Int} {r : List Int}, zst E v (a :: b :: r) = zop v b a :: r := fun {a b r} => by simp only [zst, if_neg n1, if_neg n2, if_neg n3, if_neg n4, if_neg n5]
  split at hq
  · rename_i g1
    split at hq
    · rename_i g2
      injection hq with hq
      match ts, st, hq, g2, hv, hl with
      | t :: u :: ts, a :: b :: st, hq, g2, hv, hl =>
        have hh : t = false ∧ u = false := by simpa using g2
        obtain ⟨rfl, rfl⟩ := hh
        simp only [List.length_cons] at hl
        exact ⟨by rw [← hq]; simp; omega, Or.inr (Or.inr (Or.inr (Or.inr (Or.inr ⟨by omega, by omega, a, b, st, rfl, fun _ => ⟨by simpa using hv.2.1, by simpa using hv.1⟩, fun c => absurd c (by omega), fin⟩))))⟩
      | [_], _, _, g2, _, _ => simp at g2
      | [], _, _, g2, _, _ => simp at g2
      | _ :: _ :: _, [], _, _, hv, _ => exact hv.elim
      | _ :: _ :: _, [_], _, _, hv, _ => exact hv.2.elim
    · cases hq
  split at hq
  · rename_i g1
    split at hq
    · rename_i g2
      injection hq with hq
      match ts, st, hq, g2, hv, hl with
      | t :: u :: ts, a :: b :: st, hq, g2, hv, hl =>
        have hh : t = false ∧ u = false := by simpa using g2
        obtain ⟨rfl, rfl⟩ := hh
        simp only [List.length_cons] at hl
        exact ⟨by rw [← hq]; simp; omega, Or.inr (Or.inr (Or.inr (Or.inr (Or.inr ⟨by omega, by omega, a, b, st, rfl, fun _ => ⟨by simpa using hv.2.1, by simpa using hv.1⟩, fun c => absurd c (by omega), fin⟩))))⟩
      | [_], _, _, g2, _, _ => simp at g2
      | [], _, _, g2, _, _ => simp at g2
      | _ :: _ :: _, [], _, _, hv, _ => exact hv.elim
      | _ :: _ :: _, [_], _, _, hv, _ => exact hv.2.elim
    · cases hq
  split at hq
  · rename_i g2
    injection hq with hq
    match ts, st, hq, g2, hv, hl with
    | t :: u :: ts, a :: b :: st, hq, g2, hv, hl =>
      have hh : t = true ∧ u = true := by simpa using g2.2
      obtain ⟨rfl, rfl⟩ := hh
      simp only [List.length_cons] at hl
      exact ⟨by rw [← hq]; simp; omega, Or.inr (Or.inr (Or.inr (Or.inr (Or.inr ⟨by omega, by omega, a, b, st, rfl, fun c => absurd c (by omega), fun _ => ⟨by simpa using hv.2.1, by simpa using hv.1⟩, fin⟩))))⟩
    | [_], _, _, g2, _, _ => simp at g2
    | [], _, _, g2, _, _ => simp at g2
    | _ :: _ :: _, [], _, _, hv, _ => exact hv.elim
    | _ :: _ :: _, [_], _, _, hv, _ => exact hv.2.elim
  · cases hq
/-- the Model's parts: what they are told -/
def zScM (G : zG) (h sl : Nat) (i : Int) (ok : Int → Bool) (E : (Int → Int) × (Int → Int → Int)) (M : zM) : Prop :=
  ∀ v (Q : Int → zM → Prop), 40 ≤ v → v < 60 → ok v = true → Q (E.1 (v - 40)) M → zCt G h sl 0 0 y_Md_qPartOf [(2, 125), (0, v - 40), (0, i)] M Q
theorem zSg_eq {M M' : zM} {a : Int} (e : ∀ j, M' a j = M a j) : ∀ {cs : List Int} {i : Int}, zSg M a i cs → zSg M' a i cs
  | [], _, _ => trivial
  | _ :: _, _, h => ⟨by rw [e]; exact h.1, zSg_eq e h.2⟩
theorem zPl.top {M0 M : zM} {a : Int} {r : List Int} (hp : zPl M0 M (a :: r)) : M 125 96 - 1 = r.length ∧ M 195 (M 125 96 - 1) = a := by
  have h := hp.2.1
  simp only [List.length_cons] at h
  have e : M 125 96 - 1 = r.length := by omega
  exact ⟨e, by rw [e]; exact hp.2.2.1⟩
theorem zPl.put {M0 M : zM} {a x : Int} {r : List Int} (hp : zPl M0 M (a :: r)) : zPl M0 (zwr M 195 (M 125 96 - 1) x) (x :: r) := by
  obtain ⟨e, _⟩ := hp.top
  refine ⟨hp.1.wr (Or.inl rfl), by rw [zwr_o _ (by decide)]; exact hp.2.1, ?_, ?_⟩
  · rw [e]; exact zwr_s _ _ _ _
  · rw [e]; exact zSk_wr hp.2.2.2 (by omega)
theorem c_tellL {G : zG} {h sl : Nat} (hsl : 2 ≤ sl) {c to : Int} (hc : 0 ≤ c ∧ c ≤ 8) {ok : Int → Bool} {E : (Int → Int) × (Int → Int → Int)} (hE : zEok ok E) (hno : ∀ v, 60 ≤ v → v ≤ 61 → ok v = false) {M0 : zM} {Q : Int → zM → Prop} {ty : Bool}
    (hS : ∀ M, zSm zPP M0 M → zScM G (h + 1) sl 0 ok E M) (ht : to = M0 162 (9 + c)) (hm : to ≤ 1600) :
    ∀ (cs : List Int) {i : Int} {ts : List Bool} {st : List Int} {M : zM} {u : Nat × Nat × Nat × Nat}, zPl M0 M st → 0 ≤ i → i + cs.length = to → zSg M0 163 (1600 + i) cs → zty ok cs ts = some [ty] → zvt ts st → ts.length ≤ 64 →
    (∀ M', zSm zPP M0 M' → Q ((zrn E cs st).headD 0) M') → zX G (y_Md_codesTell, h + 1 + 1, sl) u 20 [(0, (2, 125)), (1, (0, c)), (2, (0, i))] [] M Q
  | [], i, ts, st, M, u, hM, h0, hi, hs, hz, hv, hl, kq => by
    injection hz with hz
    subst hz
    have hlen := zvt_len hv
    match st, hlen, hM, kq with
    | [a], _, hM, kq =>
      have e1 : M 162 (9 + c) = to := by rw [hM.1 _ _ (by unfold zPP; omega)]; exact ht.symm
      simp only [List.length_nil] at hi
      refine B_Md_codesTell_20 hsl ⟨by unfold zI; omega, by omega, fun _ => ?_, fun n => absurd (by omega) n⟩
      have e : M 195 0 = a := hM.2.2.1
      rw [e]
      exact kq M hM.1
  | v :: cs, i, ts, st, M, u, hM, h0, hi, hs, hz, hv, hl, kq => by
    simp only [List.length_cons] at hi
    have hlen := zvt_len hv
    have e1 : M 162 (9 + c) = to := by rw [hM.1 _ _ (by unfold zPP; omega)]; exact ht.symm
    have e2 : M 163 (1600 + i) = v := by rw [hM.1 _ _ (by unfold zPP; omega)]; exact hs.1
    unfold zty at hz
    cases hq : ztq ok v ts with
    | none => rw [hq] at hz; cases hz
    | some t1 =>
      rw [hq] at hz
      have hz : zty ok cs t1 = some [ty] := hz
      have hv1 := zst_ty hE hq hv
      obtain ⟨hl1, hcase⟩ := ztq_case (E := E) hq hv hl
      have go : ∀ (M' : zM) (st' : List Int), zPl M0 M' st' → zst E v st = st' → zI (i + 1) ∧ zX G (y_Md_codesTell, h + 1 + 1, sl) u 20 [(0, (2, 125)), (1, (0, c)), (2, (0, i + 1))] [] M' Q := fun M' st' hM' e =>
        ⟨by unfold zI; omega, c_tellL (G := G) (h := h) (Q := Q) (ty := ty) hsl hc hE hno hS ht hm cs (i := i + 1) (ts := t1) (st := st') hM' (by omega) (by omega) (by rw [← Int.add_assoc]; exact hs.2) hz (e ▸ hv1) hl1 (by rw [← e]; exact kq)⟩
      refine B_Md_codesTell_20 hsl ⟨by unfold zI; omega, by omega, fun n => absurd n (by omega), fun _ => ⟨by unfold zI; omega, by omega, ?_⟩⟩
      rw [e2]
      rcases hcase with ⟨g1, g2, g3⟩ | ⟨g1, g2, g3, _⟩ | ⟨g1, g2, g3, g4⟩ | ⟨g1, g2⟩ | ⟨g1, a, r, g2, g3, g4⟩ | ⟨g1, g2, a, b, r, g3, g4, g5, g6⟩
      · exact ⟨fun n => absurd n (by omega), fun _ => ⟨by unfold zI; omega, c_qPuts hsl hM (by omega) (fun M' hM' => go M' _ hM' g3)⟩⟩
      · rw [hno v g1 g2] at g3; cases g3
      · exact ⟨fun _ => ⟨fun n => absurd n (by omega), fun _ => ⟨by unfold zI; omega, hS M hM.1 v _ g1 g2 g3 (c_qPuts hsl hM (by omega) (fun M' hM' => go M' _ hM' g4))⟩⟩, fun n => absurd (by omega) n⟩
      · exact ⟨fun _ => ⟨fun _ => ⟨fun n => absurd g1 n, fun _ => c_qPuts hsl hM (by omega) (fun M' hM' => go M' _ hM' g2)⟩, fun n => absurd (by omega) n⟩, fun n => absurd (by omega) n⟩
      · subst g2
        obtain ⟨t1e, t2e⟩ := hM.top
        simp only [List.length_cons] at hlen
        refine ⟨fun _ => ⟨fun _ => ⟨fun _ => ⟨fun n => absurd g1 n, fun _ => ⟨by unfold zI; omega, by omega, by rw [t2e]; unfold zL; omega, ?_⟩⟩, fun n => absurd (by omega) n⟩, fun n => absurd (by omega) n⟩, fun n => absurd (by omega) n⟩
        rw [t2e]
        exact go _ _ hM.put g4
      · subst g3
        simp only [List.length_cons] at hlen
        exact ⟨fun _ => ⟨fun _ => ⟨fun _ => ⟨fun _ => c_qJoins hsl hM (by omega) g1 g2 g4 g5 (fun M' hM' => go M' _ hM' g6), fun n => absurd (by omega) n⟩, fun n => absurd (by omega) n⟩, fun n => absurd (by omega) n⟩, fun n => absurd (by omega) n⟩
def zPT : Int → Int → Prop := fun a k => a = 195 ∨ a = 125 ∧ (k = 96 ∨ k = 50)
theorem c_codesTell {G : zG} {h sl : Nat} (hsl : 2 ≤ sl) {c : Int} (hc : 0 ≤ c ∧ c ≤ 8) {ok : Int → Bool} {E : (Int → Int) × (Int → Int → Int)} (hE : zEok ok E) (hno : ∀ v, 60 ≤ v → v ≤ 61 → ok v = false) {M : zM} {Q : Int → zM → Prop} {ty : Bool} {cs : List Int}
    (hS : ∀ M', zSm zPT M M' → zScM G (h + 1) sl 0 ok E M') (h0 : 0 ≤ M 161 (9 + c)) (hi : M 161 (9 + c) + cs.length = M 162 (9 + c)) (hm : M 162 (9 + c) ≤ 1600) (hs : zSg M 163 (1600 + M 161 (9 + c)) cs) (hz : zty ok cs [] = some [ty]) (kq : ∀ M', zSm zPT M M' → Q (zval E cs) M') : zCt G (h + 1 + 1) sl 0 0 y_Md_codesTell [(2, 125), (0, c)] M Q := by
  have hM0 : zSm zPT M (zwr (zwr M 125 50 c) 125 96 0) := ((zSm.refl _ M).wr (Or.inr ⟨rfl, Or.inr rfl⟩)).wr (Or.inr ⟨rfl, Or.inl rfl⟩)
  have hup : ∀ {M'}, zSm zPP (zwr (zwr M 125 50 c) 125 96 0) M' → zSm zPT M M' := fun hh => hM0.trans (hh.mono (fun o k p => by unfold zPP at p; unfold zPT; omega))
  have e : (zwr (zwr M 125 50 c) 125 96 0) 161 (9 + c) = M 161 (9 + c) := hM0 _ _ (by unfold zPT; omega)
  refine E_Md_codesTell hsl ⟨by unfold zI; omega, by omega, ?_⟩
  rw [e]
  exact c_tellL hsl hc hE hno (fun M' hh => hS M' (hup hh)) (hM0 162 (9 + c) (by unfold zPT; omega)).symm hm cs (ts := []) (st := []) ⟨zSm.refl _ _, by rw [zwr_s]; rfl, trivial⟩ h0 hi (zSg_eq (fun j => hM0 163 j (by unfold zPT; omega)) hs) hz trivial (by simp) (fun M' hh => kq M' (hup hh))
