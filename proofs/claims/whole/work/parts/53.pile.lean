/-! The Model's pile: what codes tell is zrn too. -/
def zPP : Int → Int → Prop := fun a k => a = 195 ∨ a = 125 ∧ k = 96
def zPl (M0 M : zM) (st : List Int) : Prop := zSm zPP M0 M ∧ M 125 96 = st.length ∧ zSk M 195 st
def zSg (M : zM) (a : Int) : Int → List Int → Prop
  | _, [] => True
  | i, v :: r => M a i = v ∧ zSg M a (i + 1) r
theorem c_qPuts {G : zG} {h sl : Nat} (hsl : 2 ≤ sl) {x : Int} {M0 M : zM} {st : List Int} {Q : Int → zM → Prop} (hp : zPl M0 M st) (hl : st.length < 1700) (k : ∀ M', zPl M0 M' (x :: st) → Q 0 M') : zCt G h sl 0 0 y_Md_qPuts [(2, 125), (1, x)] M Q := by
  obtain ⟨h1, h2, h3⟩ := hp
  have e : (zwr M 195 (M 125 96) x) 125 96 = st.length := by rw [zwr_o _ (by decide)]; exact h2
  refine E_Md_qPuts hsl ⟨by omega, ?_, k _ ⟨?_, ?_, ?_, ?_⟩⟩
  · rw [e]; unfold zI; omega
  · exact (h1.wr (Or.inl rfl)).wr (Or.inr ⟨rfl, rfl⟩)
  · rw [e, zwr_s]; simp only [List.length_cons]; omega
  · rw [zwr_o _ (by decide), h2]; exact zwr_s _ _ _ _
  · refine zSk_mono (M := zwr M 195 (M 125 96) x) (fun j => zwr_o _ (by decide)) ?_
    exact zSk_wr h3 (by omega)
theorem c_qClip {G : zG} {h sl : Nat} (hsl : 2 ≤ sl) {x : Int} {M : zM} {Q : Int → zM → Prop} (k : Q (zclip x) M) : zCt G h sl 0 0 y_Md_qClip [(1, x)] M Q := by
  unfold zclip at k
  refine E_Md_qClip hsl ⟨fun c => ⟨fun c2 => ?_, fun c2 => ?_⟩, fun c => ?_⟩
  · rw [if_neg (by omega), if_neg (by omega)] at k; exact k
  · rw [if_neg (by omega), if_pos (by omega)] at k; exact k
  · rw [if_pos (by omega)] at k; exact k
theorem c_qFloor {G : zG} {h sl : Nat} (hsl : 2 ≤ sl) {a b : Int} {M : zM} {Q : Int → zM → Prop} (ha : -1000000 ≤ a ∧ a ≤ 1000000) (k : Q (zflr a b) M) : zCt G h sl 0 0 y_Md_qFloor [(1, a), (1, b)] M Q := by
  have hd := ztdiv_in (b := b) ha
  unfold zflr at k
  refine E_Md_qFloor hsl ⟨fun c => ⟨c, by unfold zL; omega, fun c2 => ?_, fun c2 => ⟨fun c3 => ?_, fun c3 => ?_⟩⟩, fun c => ?_⟩
  · rw [if_neg c, if_neg (by omega)] at k; exact k
  · rw [if_neg c] at k
    refine B_Md_qFloor_32 hsl ⟨fun c4 => ⟨fun _ => ?_, fun n => absurd rfl n⟩, fun c4 => ⟨fun n => absurd n (by decide), fun _ => ⟨by unfold zL; omega, ?_⟩⟩⟩
    · rw [if_neg (by omega)] at k; exact k
    · rw [if_pos (by omega)] at k; exact k
  · rw [if_neg c] at k
    refine B_Md_qFloor_32 hsl ⟨fun c4 => ⟨fun n => absurd n (by decide), fun _ => ⟨by unfold zL; omega, ?_⟩⟩, fun c4 => ⟨fun _ => ?_, fun n => absurd rfl n⟩⟩
    · rw [if_pos (by omega)] at k; exact k
    · rw [if_neg (by omega)] at k; exact k
  · rw [if_pos (by omega)] at k; exact k
theorem c_qJoins {G : zG} {h sl : Nat} (hsl : 2 ≤ sl) {v a b : Int} {M0 M : zM} {r : List Int} {Q : Int → zM → Prop} (hp : zPl M0 M (a :: b :: r)) (hl : r.length < 1600) (h1 : 1 ≤ v) (h2 : v ≤ 11) (hs : v ≤ 9 → (-1000000 ≤ b ∧ b ≤ 1000000) ∧ (-1000000 ≤ a ∧ a ≤ 1000000)) (hg : 10 ≤ v → (b = 0 ∨ b = 1) ∧ (a = 0 ∨ a = 1)) (k : ∀ M', zPl M0 M' (zop v b a :: r) → Q 0 M') : zCt G (h + 1) sl 0 0 y_Md_qJoins [(2, 125), (0, v)] M Q := by
  obtain ⟨p1, p2, p3⟩ := hp
  have hlen : M 125 96 = r.length + 2 := by rw [p2]; simp only [List.length_cons]; omega
  have ha : M 195 (M 125 96 - 1) = a := by
    have := p3.1
    simp only [List.length_cons] at this
    rw [← this, hlen]
    congr 1
    omega
  have hb : M 195 (M 125 96 - 2) = b := by
    have := p3.2.1
    rw [← this, hlen]
    congr 1
    omega
  have hp' : zPl M0 (zwr M 125 96 (M 125 96 - 2)) r := ⟨p1.wr (Or.inr ⟨rfl, rfl⟩), by rw [zwr_s]; omega, zSk_mono (M := M) (fun j => zwr_o _ (by decide)) p3.2.2⟩
  have hm : v ≤ 9 → zL (b + a) ∧ zL (b - a) ∧ zL (b * a) := fun c => by
    have hs := hs c
    have : (b * a).natAbs ≤ 1000000 * 1000000 := by
      rw [Int.natAbs_mul]
      exact Nat.mul_le_mul (by omega) (by omega)
    unfold zL
    refine ⟨by omega, by omega, by omega⟩
  refine E_Md_qJoins hsl ⟨by unfold zI; omega, by omega, by unfold zI; omega, by omega, ?_⟩
  rw [ha, hb]
  have put : ∀ x, zop v b a = x → zCt G h sl 0 0 y_Md_qPuts [(2, 125), (1, x)] (zwr M 125 96 (M 125 96 - 2)) (fun _ M' => Q 0 M') := fun x e => c_qPuts hsl hp' (by omega) (fun M' hh => k M' (e ▸ hh))
  refine ⟨fun c => ?_, fun c => ?_, fun c => ?_, fun c => ?_, fun c => ?_, fun c => ?_, fun c => ?_, fun c => ?_, fun c => ?_, fun c => ?_, fun c => ?_⟩
  · subst c
    exact ⟨(hm (by decide)).1, c_qClip hsl (put _ (zop_1 _ _))⟩
  · subst c
    exact ⟨(hm (by decide)).2.1, c_qClip hsl (put _ (zop_2 _ _))⟩
  · subst c
    exact ⟨(hm (by decide)).2.2, c_qClip hsl (put _ (zop_3 _ _))⟩
  · subst c
    exact c_qFloor hsl (hs (by decide)).1 (put _ (zop_4 _ _))
  · subst c
    refine ⟨fun c => B_Md_qJoins_161 hsl (put _ ?_), fun c => B_Md_qJoins_161 hsl (put _ ?_)⟩
    · rw [zop_5]; split <;> omega
    · rw [zop_5]; split <;> omega
  · subst c
    refine ⟨fun c => B_Md_qJoins_181 hsl (put _ ?_), fun c => B_Md_qJoins_181 hsl (put _ ?_)⟩
    · rw [zop_6]; split <;> omega
    · rw [zop_6]; split <;> omega
  · subst c
    refine ⟨fun c => B_Md_qJoins_200 hsl (put _ ?_), fun c => B_Md_qJoins_200 hsl (put _ ?_)⟩
    · rw [zop_7]; split <;> omega
    · rw [zop_7]; split <;> omega
  · subst c
    refine ⟨fun c => B_Md_qJoins_219 hsl (put _ ?_), fun c => B_Md_qJoins_219 hsl (put _ ?_)⟩
    · rw [zop_8]; split <;> omega
    · rw [zop_8]; split <;> omega
  · subst c
    refine ⟨fun c => B_Md_qJoins_238 hsl (put _ ?_), fun c => B_Md_qJoins_238 hsl (put _ ?_)⟩
    · rw [zop_9]; split <;> omega
    · rw [zop_9]; split <;> omega
  · subst c
    refine ⟨?_, put _ (zop_10 _ _)⟩
    obtain ⟨q1, q2⟩ := hg (by decide)
    rcases q1 with rfl | rfl <;> rcases q2 with rfl | rfl <;> exact zLl rfl
  · obtain rfl : v = 11 := by omega
    refine ⟨?_, fun c2 => put _ ?_, fun c2 => put _ ?_⟩
    · obtain ⟨q1, q2⟩ := hg (by decide)
      unfold zL
      omega
    · rw [zop_11, if_neg (by omega)]
    · rw [zop_11, if_pos (by omega)]
