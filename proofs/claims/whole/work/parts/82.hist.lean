/-- how many kept lines are told -/
def zkt4 (n : Int) : Int := if n < 40 then n else 40
theorem c_keptTold {G : zG} {h sl : Nat} (hsl : 1 ≤ sl) {M : zM} {Q : Int → zM → Prop} (q : Q (zkt4 (M 18 4)) M) : zCt G (h + 1) sl 0 0 y_History_keptTold [(2, 18)] M Q := by
  unfold zkt4 at q
  refine E_History_keptTold hsl (E_Jm_min_III hsl ⟨fun g => ?_, fun g => ?_⟩)
  · rw [if_pos g] at q; exact q
  · rw [if_neg g] at q; exact q
theorem c_keptLine {G : zG} {h sl : Nat} (hsl : 1 ≤ sl) {k : Int} {M : zM} {Q : Int → zM → Prop} (hn : 0 ≤ M 18 4 ∧ M 18 4 ≤ 1000) (k0 : 0 ≤ k) (hk : k < zkt4 (M 18 4)) (q : Q (M 19 (M 18 4 - zkt4 (M 18 4) + k)) M) : zCt G (h + 2) sl 0 0 y_History_keptLine [(2, 18), (0, k)] M Q := by
  have hz : zkt4 (M 18 4) ≤ M 18 4 ∧ zkt4 (M 18 4) ≤ 40 := by unfold zkt4; split <;> omega
  exact E_History_keptLine hsl (c_keptTold hsl ⟨by unfold zI; omega, by unfold zI; omega, by omega, q⟩)
theorem c_keptUntrue {G : zG} {h sl : Nat} (hsl : 1 ≤ sl) {k : Int} {M : zM} {Q : Int → zM → Prop} (hn : 0 ≤ M 18 4 ∧ M 18 4 ≤ 1000) (k0 : 0 ≤ k) (hk : k < zkt4 (M 18 4)) (q : Q (M 20 (M 18 4 - zkt4 (M 18 4) + k)) M) : zCt G (h + 2) sl 0 0 y_History_keptUntrue [(2, 18), (0, k)] M Q := by
  have hz : zkt4 (M 18 4) ≤ M 18 4 ∧ zkt4 (M 18 4) ≤ 40 := by unfold zkt4; split <;> omega
  exact E_History_keptUntrue hsl (c_keptTold hsl ⟨by unfold zI; omega, by unfold zI; omega, by omega, q⟩)
