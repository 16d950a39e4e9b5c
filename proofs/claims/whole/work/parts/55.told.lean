def zScQ (G : zG) (h sl : Nat) (i : Int) (ok : Int → Bool) (E : (Int → Int) × (Int → Int → Int)) (M : zM) : Prop :=
  (∀ v (Q : Int → zM → Prop), 40 ≤ v → v < 60 → ok v = true → (∀ r, zclip r = E.1 (v - 40) → Q r M) → zCt G h sl 0 0 y_Md_qPartOf [(2, 125), (0, v - 40), (0, i)] M Q) ∧
  (∀ v a (Q : Int → zM → Prop), 60 ≤ v → v ≤ 61 → ok v = true → -1000000 ≤ a ∧ a ≤ 1000000 → (∀ r, zclip r = E.2 (v - 60) a → Q r M) → zCt G h sl 0 0 y_Md_qOf [(2, 125), (0, v - 60), (1, a), (0, i)] M Q)
theorem c_qToldL {G : zG} {h sl : Nat} (hsl : 2 ≤ sl) {c to : Int} {ok : Int → Bool} {E : (Int → Int) × (Int → Int → Int)} (hE : zEok ok E) {M0 : zM} {Q : Int → zM → Prop} {ty : Bool}
    (hS : ∀ M, zSm zPP M0 M → zScQ G (h + 1) sl c ok E M) (ht : to = M0 125 90) (hm : to ≤ 1600) :
    ∀ (cs : List Int) {i : Int} {ts : List Bool} {st : List Int} {M : zM} {u : Nat × Nat × Nat × Nat}, zPl M0 M st → 0 ≤ i → i + cs.length = to → zSg M0 193 i cs → zty ok cs ts = some [ty] → zvt ts st → ts.length ≤ 64 →
    (∀ M', zSm zPP M0 M' → Q ((zrn E cs st).headD 0) M') → zX G (y_Md_qTold, h + 1 + 1, sl) u 7 [(0, (2, 125)), (1, (0, c)), (2, (0, i))] [] M Q
  | [], i, ts, st, M, u, hM, h0, hi, hs, hz, hv, hl, kq => by
    injection hz with hz
    subst hz
    have hlen := zvt_len hv
    match st, hlen, hM, kq with
    | [a], _, hM, kq =>
      have e1 : M 125 90 = to := by rw [hM.1 _ _ (by unfold zPP; omega)]; exact ht.symm
      simp only [List.length_nil] at hi
      refine B_Md_qTold_7 hsl ⟨fun _ => ?_, fun n => absurd (by omega) n⟩
      have e : M 195 0 = a := hM.2.2.1
      rw [e]
      exact kq M hM.1
  | v :: cs, i, ts, st, M, u, hM, h0, hi, hs, hz, hv, hl, kq => by
    simp only [List.length_cons] at hi
    have hlen := zvt_len hv
    have e1 : M 125 90 = to := by rw [hM.1 _ _ (by unfold zPP; omega)]; exact ht.symm
    have e2 : M 193 i = v := by rw [hM.1 _ _ (by unfold zPP; omega)]; exact hs.1
    unfold zty at hz
    cases hq : ztq ok v ts with
    | none => rw [hq] at hz; cases hz
    | some t1 =>
      rw [hq] at hz
      have hz : zty ok cs t1 = some [ty] := hz
      have hv1 := zst_ty hE hq hv
      obtain ⟨hl1, hcase⟩ := ztq_case (E := E) hq hv hl
      have go : ∀ (M' : zM) (st' : List Int), zPl M0 M' st' → zst E v st = st' → zI (i + 1) ∧ zX G (y_Md_qTold, h + 1 + 1, sl) u 7 [(0, (2, 125)), (1, (0, c)), (2, (0, i + 1))] [] M' Q := fun M' st' hM' e =>
        ⟨by unfold zI; omega, c_qToldL (G := G) (h := h) (Q := Q) (ty := ty) hsl hE hS ht hm cs (i := i + 1) (ts := t1) (st := st') hM' (by omega) (by omega) hs.2 hz (e ▸ hv1) hl1 (by rw [← e]; exact kq)⟩
      refine B_Md_qTold_7 hsl ⟨fun n => absurd n (by omega), fun _ => ⟨by omega, ?_⟩⟩
      rw [e2]
      rcases hcase with ⟨g1, g2, g3⟩ | ⟨g1, g2, g3, a, r, g4, g5, g6⟩ | ⟨g1, g2, g3, g4⟩ | ⟨g1, g2⟩ | ⟨g1, a, r, g2, g3, g4⟩ | ⟨g1, g2, a, b, r, g3, g4, g5, g6⟩
      · exact ⟨fun n => absurd n (by omega), fun _ => ⟨by unfold zI; omega, c_qPuts hsl hM (by omega) (fun M' hM' => go M' _ hM' g3)⟩⟩
      · subst g4
        obtain ⟨t1e, t2e⟩ := hM.top
        simp only [List.length_cons] at hlen
        refine ⟨fun _ => ⟨fun n => absurd n (by omega), fun _ => ⟨by unfold zI; omega, by unfold zI; omega, by omega, ?_⟩⟩, fun n => absurd (by omega) n⟩
        rw [t2e]
        refine (hS M hM.1).2 v a _ g1 g2 g3 g5 (fun x hx => c_qClip hsl ?_)
        rw [hx]
        exact go _ _ hM.put g6
      · refine ⟨fun _ => ⟨fun _ => ⟨fun n => absurd n (by omega), fun _ => ⟨by unfold zI; omega, (hS M hM.1).1 v _ g1 g2 g3 (fun x hx => c_qClip hsl ?_)⟩⟩, fun n => absurd (by omega) n⟩, fun n => absurd (by omega) n⟩
        rw [hx]
        exact c_qPuts hsl hM (by omega) (fun M' hM' => go M' _ hM' g4)
      · exact ⟨fun _ => ⟨fun _ => ⟨fun _ => ⟨fun n => absurd g1 n, fun _ => c_qPuts hsl hM (by omega) (fun M' hM' => go M' _ hM' g2)⟩, fun n => absurd (by omega) n⟩, fun n => absurd (by omega) n⟩, fun n => absurd (by omega) n⟩
      · subst g2
        obtain ⟨t1e, t2e⟩ := hM.top
        simp only [List.length_cons] at hlen
        refine ⟨fun _ => ⟨fun _ => ⟨fun _ => ⟨fun _ => ⟨fun n => absurd g1 n, fun _ => ⟨by unfold zI; omega, by omega, by rw [t2e]; unfold zL; omega, ?_⟩⟩, fun n => absurd (by omega) n⟩, fun n => absurd (by omega) n⟩, fun n => absurd (by omega) n⟩, fun n => absurd (by omega) n⟩
        rw [t2e]
        exact go _ _ hM.put g4
      · subst g3
        simp only [List.length_cons] at hlen
        exact ⟨fun _ => ⟨fun _ => ⟨fun _ => ⟨fun _ => ⟨fun _ => c_qJoins hsl hM (by omega) g1 g2 g4 g5 (fun M' hM' => go M' _ hM' g6), fun n => absurd (by omega) n⟩, fun n => absurd (by omega) n⟩, fun n => absurd (by omega) n⟩, fun n => absurd (by omega) n⟩, fun n => absurd (by omega) n⟩
theorem c_qTold {G : zG} {h sl : Nat} (hsl : 2 ≤ sl) {c : Int} {ok : Int → Bool} {E : (Int → Int) × (Int → Int → Int)} (hE : zEok ok E) {M : zM} {Q : Int → zM → Prop} {ty : Bool} {cs : List Int}
    (hS : ∀ M', zSm zPP M M' → zScQ G (h + 1) sl c ok E M') (hi : (cs.length : Int) = M 125 90) (hm : M 125 90 ≤ 1600) (hs : zSg M 193 0 cs) (hz : zty ok cs [] = some [ty]) (kq : ∀ M', zSm zPP M M' → Q (zval E cs) M') : zCt G (h + 1 + 1) sl 0 0 y_Md_qTold [(2, 125), (0, c)] M Q := by
  have hM0 : zSm zPP M (zwr M 125 96 0) := (zSm.refl _ M).wr (Or.inr ⟨rfl, rfl⟩)
  refine E_Md_qTold hsl ?_
  exact c_qToldL hsl hE (fun M' hh => hS M' (hM0.trans hh)) (hM0 125 90 (by unfold zPP; omega)).symm hm cs (ts := []) (st := []) ⟨zSm.refl _ _, by rw [zwr_s]; rfl, trivial⟩ (by omega) (by omega) (zSg_eq (fun j => hM0 193 j (by unfold zPP; omega)) hs) hz trivial (by simp) (fun M' hh => kq M' (hM0.trans hh))
