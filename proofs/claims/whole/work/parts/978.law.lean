/-! THE LAW'S LOOP (made by wip/whole/gen/law.py). -/
theorem w_loop {G : zG} {h sl : Nat} (hsl : 2 ≤ sl) {u : Nat × Nat × Nat × Nat} : ∀ (d : Nat) (i N : Int) (M : zM), M (-2) 0 - 6 < i + 6 * (d : Int) → 0 ≤ i → i ≤ 4000 → 0 ≤ M (-2) 0 → M (-2) 0 ≤ 3072 → (∀ j, zI (M (-1) j)) → zIv N M → N + (d : Int) ≤ 90000 → zX G (y_Law_law, h + 50 + 1, sl) u 18 [(0, (2, (-1))), (1, (2, 1)), (2, (2, 125)), (3, (0, i))] [] M (fun r _ => r = 1)
  | 0, i, N, M, hd, i0, i4, l0, l3, hz, hI, hN => by
    refine B_Law_law_18 hsl ⟨by unfold zI; omega, fun _ => rfl, fun y => absurd (by omega) y⟩
  | d + 1, i, N, M, hd, i0, i4, l0, l3, hz, hI, hN => by
    refine B_Law_law_18 hsl ⟨by unfold zI; omega, fun _ => rfl, fun hl => ?_⟩
    have hN1 : N + 1 ≤ 90000 := by omega
    have z1 : zI (i + 1) := by unfold zI; omega
    have z2 : zI (i + 2) := by unfold zI; omega
    have z3 : zI (i + 3) := by unfold zI; omega
    have z4 : zI (i + 4) := by unfold zI; omega
    have z5 : zI (i + 5) := by unfold zI; omega
    have z6 : zI (i + 6) := by unfold zI; omega
    have r1 : 0 ≤ i + 1 ∧ i + 1 < M (-2) 0 := by omega
    have r2 : 0 ≤ i + 2 ∧ i + 2 < M (-2) 0 := by omega
    have r3 : 0 ≤ i + 3 ∧ i + 3 < M (-2) 0 := by omega
    have r4 : 0 ≤ i + 4 ∧ i + 4 < M (-2) 0 := by omega
    have r5 : 0 ≤ i + 5 ∧ i + 5 < M (-2) 0 := by omega
    have nx : ∀ M2, (∀ a k, a < 0 → M2 a k = M a k) → zIv (N + 1) M2 → zX G (y_Law_law, h + 50 + 1, sl) u 18 [(0, (2, (-1))), (1, (2, 1)), (2, (2, 125)), (3, (0, i + 6))] [] M2 (fun r _ => r = 1) := fun M2 f2 I2 => by
      have e2 : M2 (-2) 0 = M (-2) 0 := f2 _ _ (by decide)
      exact w_loop hsl d (i + 6) (N + 1) M2 (by rw [e2]; omega) (by omega) (by omega) (by rw [e2]; exact l0) (by rw [e2]; exact l3) (fun j => by rw [f2 _ _ (by decide)]; exact hz j) I2 (by omega)
    have e1 : ∀ {M1 : zM}, (∀ a k, a < 0 → M1 a k = M a k) → M1 (-1) = M (-1) ∧ M1 (-2) = M (-2) := fun f1 => ⟨funext (fun k => f1 _ k (by decide)), funext (fun k => f1 _ k (by decide))⟩
    refine ⟨⟨i0, by omega⟩, fun _ => ?_, fun _ => ?_, fun _ => ?_, fun _ => ?_, fun _ => ?_, fun _ => ?_, fun _ => ?_, fun _ => ?_, fun _ => ?_, fun _ => ?_, fun _ => ?_, fun _ => ?_, fun _ => ?_, fun _ => ?_, fun _ => ?_, fun _ => ?_, fun _ => ?_, fun _ => ?_, fun _ => ?_, fun _ => ?_, fun _ => ?_, fun _ => ?_, fun _ => ?_, fun _ => ?_, fun _ => ?_, fun _ => ?_, fun _ => ?_, fun _ => ?_, fun _ => ?_, fun _ => ?_, fun _ => ?_, fun _ => ?_, fun _ => ⟨z6, w_loop hsl d (i + 6) N M (by omega) (by omega) (by omega) l0 l3 hz hI (by omega)⟩⟩
    · refine ⟨z1, r1, z2, r2, z3, r3, z4, r4, z5, r5, o_feed hsl hN1 hI _ (fun r M1 f1 h2 => ?_)⟩
      rw [(e1 f1).1, (e1 f1).2]
      exact ⟨r1, r2, r3, r4, r5, h2 _ (fun M2 f2 I2 => ⟨fun _ => ⟨z6, nx M2 (fun a k ha => (f2 a k ha).trans (f1 a k ha)) I2⟩, fun y => absurd rfl y⟩)⟩
    · refine ⟨z1, r1, o_end hsl hN1 hI _ (fun r M1 f1 h2 => ?_)⟩
      rw [(e1 f1).1, (e1 f1).2]
      exact ⟨r1, h2 _ (fun M2 f2 I2 => ⟨fun _ => ⟨z6, nx M2 (fun a k ha => (f2 a k ha).trans (f1 a k ha)) I2⟩, fun y => absurd rfl y⟩)⟩
    · refine o_tablet hsl hN1 hI _ (fun r M1 f1 h2 => ?_)
      exact h2 _ (fun M2 f2 I2 => ⟨fun _ => ⟨z6, nx M2 (fun a k ha => (f2 a k ha).trans (f1 a k ha)) I2⟩, fun y => absurd rfl y⟩)
    · refine ⟨z1, r1, o_fault hsl hN1 hI _ (fun r M1 f1 h2 => ?_)⟩
      rw [(e1 f1).1, (e1 f1).2]
      exact ⟨r1, h2 _ (fun M2 f2 I2 => ⟨fun _ => ⟨z6, nx M2 (fun a k ha => (f2 a k ha).trans (f1 a k ha)) I2⟩, fun y => absurd rfl y⟩)⟩
    · refine ⟨z1, r1, o_has hsl hN1 hI _ (fun r M1 f1 h2 => ?_)⟩
      rw [(e1 f1).1, (e1 f1).2]
      exact ⟨r1, h2 _ (fun M2 f2 I2 => ⟨fun _ => ⟨z6, nx M2 (fun a k ha => (f2 a k ha).trans (f1 a k ha)) I2⟩, fun y => absurd rfl y⟩)⟩
    · refine ⟨z1, r1, z2, r2, o_letter hsl hN1 hI _ (fun r M1 f1 h2 => ?_)⟩
      rw [(e1 f1).1, (e1 f1).2]
      exact ⟨r1, r2, h2 _ (fun M2 f2 I2 => ⟨fun _ => ⟨z6, nx M2 (fun a k ha => (f2 a k ha).trans (f1 a k ha)) I2⟩, fun y => absurd rfl y⟩)⟩
    · refine ⟨z1, r1, z2, r2, o_column hsl hN1 hI _ (fun r M1 f1 h2 => ?_)⟩
      rw [(e1 f1).1, (e1 f1).2]
      exact ⟨r1, r2, h2 _ (fun M2 f2 I2 => ⟨fun _ => ⟨z6, nx M2 (fun a k ha => (f2 a k ha).trans (f1 a k ha)) I2⟩, fun y => absurd rfl y⟩)⟩
    · refine ⟨z1, r1, z2, r2, o_value hsl hN1 hI _ (fun r M1 f1 h2 => ?_)⟩
      rw [(e1 f1).1, (e1 f1).2]
      exact ⟨r1, r2, h2 _ (fun M2 f2 I2 => ⟨fun _ => ⟨z6, nx M2 (fun a k ha => (f2 a k ha).trans (f1 a k ha)) I2⟩, fun y => absurd rfl y⟩)⟩
    · refine ⟨z1, r1, z2, r2, o_kept hsl hN1 hI _ (fun r M1 f1 h2 => ?_)⟩
      rw [(e1 f1).1, (e1 f1).2]
      exact ⟨r1, r2, h2 _ (fun M2 f2 I2 => ⟨fun _ => ⟨z6, nx M2 (fun a k ha => (f2 a k ha).trans (f1 a k ha)) I2⟩, fun y => absurd rfl y⟩)⟩
    · refine ⟨z1, r1, z2, r2, o_later hsl hN1 hI _ (fun r M1 f1 h2 => ?_)⟩
      rw [(e1 f1).1, (e1 f1).2]
      exact ⟨r1, r2, h2 _ (fun M2 f2 I2 => ⟨fun _ => ⟨z6, nx M2 (fun a k ha => (f2 a k ha).trans (f1 a k ha)) I2⟩, fun y => absurd rfl y⟩)⟩
    · refine ⟨z1, r1, z2, r2, z3, r3, o_bounds hsl hN1 hI _ (fun r M1 f1 h2 => ?_)⟩
      rw [(e1 f1).1, (e1 f1).2]
      exact ⟨r1, r2, r3, h2 _ (fun M2 f2 I2 => ⟨fun _ => ⟨z6, nx M2 (fun a k ha => (f2 a k ha).trans (f1 a k ha)) I2⟩, fun y => absurd rfl y⟩)⟩
    · refine ⟨z1, r1, o_period hsl hN1 hI _ (fun r M1 f1 h2 => ?_)⟩
      rw [(e1 f1).1, (e1 f1).2]
      exact ⟨r1, h2 _ (fun M2 f2 I2 => ⟨fun _ => ⟨z6, nx M2 (fun a k ha => (f2 a k ha).trans (f1 a k ha)) I2⟩, fun y => absurd rfl y⟩)⟩
    · refine ⟨z1, r1, z2, r2, o_when hsl hN1 hI _ (fun r M1 f1 h2 => ?_)⟩
      rw [(e1 f1).1, (e1 f1).2]
      exact ⟨r1, r2, h2 _ (fun M2 f2 I2 => ⟨fun _ => ⟨z6, nx M2 (fun a k ha => (f2 a k ha).trans (f1 a k ha)) I2⟩, fun y => absurd rfl y⟩)⟩
    · refine ⟨z1, r1, z2, r2, o_meet hsl hN1 hI _ (fun r M1 f1 h2 => ?_)⟩
      rw [(e1 f1).1, (e1 f1).2]
      exact ⟨r1, r2, h2 _ (fun M2 f2 I2 => ⟨fun _ => ⟨z6, nx M2 (fun a k ha => (f2 a k ha).trans (f1 a k ha)) I2⟩, fun y => absurd rfl y⟩)⟩
    · refine ⟨z1, r1, z2, r2, o_marks hsl hN1 hI _ (fun r M1 f1 h2 => ?_)⟩
      rw [(e1 f1).1, (e1 f1).2]
      exact ⟨r1, r2, h2 _ (fun M2 f2 I2 => ⟨fun _ => ⟨z6, nx M2 (fun a k ha => (f2 a k ha).trans (f1 a k ha)) I2⟩, fun y => absurd rfl y⟩)⟩
    · refine ⟨z1, r1, o_heal hsl hN1 hI _ (fun r M1 f1 h2 => ?_)⟩
      rw [(e1 f1).1, (e1 f1).2]
      exact ⟨r1, h2 _ (fun M2 f2 I2 => ⟨fun _ => ⟨z6, nx M2 (fun a k ha => (f2 a k ha).trans (f1 a k ha)) I2⟩, fun y => absurd rfl y⟩)⟩
    · refine ⟨z1, r1, o_odds hsl hN1 hI _ (fun r M1 f1 h2 => ?_)⟩
      rw [(e1 f1).1, (e1 f1).2]
      exact ⟨r1, h2 _ (fun M2 f2 I2 => ⟨fun _ => ⟨z6, nx M2 (fun a k ha => (f2 a k ha).trans (f1 a k ha)) I2⟩, fun y => absurd rfl y⟩)⟩
    · refine o_find hsl hN1 hI _ (fun r M1 f1 h2 => ?_)
      exact h2 _ (fun M2 f2 I2 => ⟨fun _ => ⟨z6, nx M2 (fun a k ha => (f2 a k ha).trans (f1 a k ha)) I2⟩, fun y => absurd rfl y⟩)
    · refine ⟨z1, r1, o_fits hsl hN1 hI _ (fun r M1 f1 h2 => ?_)⟩
      rw [(e1 f1).1, (e1 f1).2]
      exact ⟨r1, h2 _ (fun M2 f2 I2 => ⟨fun _ => ⟨z6, nx M2 (fun a k ha => (f2 a k ha).trans (f1 a k ha)) I2⟩, fun y => absurd rfl y⟩)⟩
    · refine ⟨z1, r1, z2, r2, o_differences hsl hN1 hI _ (fun r M1 f1 h2 => ?_)⟩
      rw [(e1 f1).1, (e1 f1).2]
      exact ⟨r1, r2, h2 _ (fun M2 f2 I2 => ⟨fun _ => ⟨z6, nx M2 (fun a k ha => (f2 a k ha).trans (f1 a k ha)) I2⟩, fun y => absurd rfl y⟩)⟩
    · refine ⟨z1, r1, o_tells hsl hN1 hI _ (fun r M1 f1 h2 => ?_)⟩
      rw [(e1 f1).1, (e1 f1).2]
      exact ⟨r1, h2 _ (fun M2 f2 I2 => ⟨fun _ => ⟨z6, nx M2 (fun a k ha => (f2 a k ha).trans (f1 a k ha)) I2⟩, fun y => absurd rfl y⟩)⟩
    · refine ⟨z1, r1, o_write hsl hN1 hI _ (fun r M1 f1 h2 => ?_)⟩
      rw [(e1 f1).1, (e1 f1).2]
      exact ⟨r1, h2 _ (fun M2 f2 I2 => ⟨fun _ => ⟨z6, nx M2 (fun a k ha => (f2 a k ha).trans (f1 a k ha)) I2⟩, fun y => absurd rfl y⟩)⟩
    · refine ⟨z1, r1, z2, r2, o_put hsl hN1 hI _ (fun r M1 f1 h2 => ?_)⟩
      rw [(e1 f1).1, (e1 f1).2]
      exact ⟨r1, r2, h2 _ (fun M2 f2 I2 => ⟨fun _ => ⟨z6, nx M2 (fun a k ha => (f2 a k ha).trans (f1 a k ha)) I2⟩, fun y => absurd rfl y⟩)⟩
    · refine ⟨z1, r1, o_turn hsl hN1 hI _ (fun r M1 f1 h2 => ?_)⟩
      rw [(e1 f1).1, (e1 f1).2]
      exact ⟨r1, h2 _ (fun M2 f2 I2 => ⟨fun _ => ⟨z6, nx M2 (fun a k ha => (f2 a k ha).trans (f1 a k ha)) I2⟩, fun y => absurd rfl y⟩)⟩
    · refine ⟨z1, r1, o_chance hsl hN1 hI _ (fun r M1 f1 h2 => ?_)⟩
      rw [(e1 f1).1, (e1 f1).2]
      exact ⟨r1, h2 _ (fun M2 f2 I2 => ⟨fun _ => ⟨z6, nx M2 (fun a k ha => (f2 a k ha).trans (f1 a k ha)) I2⟩, fun y => absurd rfl y⟩)⟩
    · refine o_undo hsl hN1 hI _ (fun r M1 f1 h2 => ?_)
      exact h2 _ (fun M2 f2 I2 => ⟨fun _ => ⟨z6, nx M2 (fun a k ha => (f2 a k ha).trans (f1 a k ha)) I2⟩, fun y => absurd rfl y⟩)
    · refine ⟨z1, r1, o_seed hsl hN1 hI (hz _) _ (fun r M1 f1 h2 => ?_)⟩
      rw [(e1 f1).1, (e1 f1).2]
      exact ⟨r1, h2 _ (fun M2 f2 I2 => ⟨fun _ => ⟨z6, nx M2 (fun a k ha => (f2 a k ha).trans (f1 a k ha)) I2⟩, fun y => absurd rfl y⟩)⟩
    · refine o_ask hsl hN1 hI _ (fun r M1 f1 h2 => ?_)
      exact h2 _ (fun M2 f2 I2 => ⟨fun _ => ⟨z6, nx M2 (fun a k ha => (f2 a k ha).trans (f1 a k ha)) I2⟩, fun y => absurd rfl y⟩)
    · refine o_image hsl hN1 hI _ (fun r M1 f1 h2 => ?_)
      exact h2 _ (fun M2 f2 I2 => ⟨fun _ => ⟨z6, nx M2 (fun a k ha => (f2 a k ha).trans (f1 a k ha)) I2⟩, fun y => absurd rfl y⟩)
    · refine ⟨z1, r1, o_octet hsl hN1 hI _ (fun r M1 f1 h2 => ?_)⟩
      rw [(e1 f1).1, (e1 f1).2]
      exact ⟨r1, h2 _ (fun M2 f2 I2 => ⟨fun _ => ⟨z6, nx M2 (fun a k ha => (f2 a k ha).trans (f1 a k ha)) I2⟩, fun y => absurd rfl y⟩)⟩
    · refine o_on hsl hN1 hI _ (fun r M1 f1 h2 => ?_)
      exact h2 _ (fun M2 f2 I2 => ⟨fun _ => ⟨z6, nx M2 (fun a k ha => (f2 a k ha).trans (f1 a k ha)) I2⟩, fun y => absurd rfl y⟩)
    · refine ⟨z1, r1, o_status hsl hN1 hI _ (fun r M1 f1 h2 => ?_)⟩
      rw [(e1 f1).1, (e1 f1).2]
      exact ⟨r1, h2 _ (fun M2 f2 I2 => ⟨fun _ => ⟨z6, nx M2 (fun a k ha => (f2 a k ha).trans (f1 a k ha)) I2⟩, fun y => absurd rfl y⟩)⟩
