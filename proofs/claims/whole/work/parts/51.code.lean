/-! The component's Code: what run does is zrn. -/
def zSm (P : Int → Int → Prop) (M M' : zM) : Prop := ∀ o k, ¬ P o k → M' o k = M o k
theorem zSm.refl (P : Int → Int → Prop) (M : zM) : zSm P M M := fun _ _ _ => rfl
theorem zSm.trans {P : Int → Int → Prop} {M M1 M2 : zM} (a : zSm P M M1) (b : zSm P M1 M2) : zSm P M M2 := fun o k h => (b o k h).trans (a o k h)
theorem zSm.mono {P P' : Int → Int → Prop} {M M' : zM} (h : ∀ o k, P o k → P' o k) (a : zSm P M M') : zSm P' M M' := fun o k n => a o k (fun p => n (h o k p))
theorem zSm.wr {P : Int → Int → Prop} {M M' : zM} {o k v : Int} (a : zSm P M M') (h : P o k) : zSm P M (zwr M' o k v) := fun x y n => by
  rw [zwr_i]
  split
  · rename_i e
    exact absurd (e.1 ▸ e.2 ▸ h) n
  · exact a x y n
theorem zi_neg (z : Int32) : z.toInt < 0 ↔ z.toBitVec.msb = true := by
  rw [BitVec.msb_eq_toInt, decide_eq_true_iff]
  exact Iff.rfl
theorem zxor_neg {x y : Int} (hx : zI x) (hy : zI y) : zxor x y < 0 ↔ ¬ (x < 0 ↔ y < 0) := by
  have ex := zi_neg (Int32.ofInt x)
  have ey := zi_neg (Int32.ofInt y)
  rw [zi_to hx] at ex
  rw [zi_to hy] at ey
  unfold zxor
  rw [zi_neg, Int32.toBitVec_xor, BitVec.msb_xor, ex, ey]
  cases (Int32.ofInt x).toBitVec.msb <;> cases (Int32.ofInt y).toBitVec.msb <;> simp
theorem c_floorDiv {G : zG} {h sl : Nat} (hsl : 1 ≤ sl) {a b : Int} {M : zM} {Q : Int → zM → Prop} (ha : -1000000 ≤ a ∧ a ≤ 1000000) (hb : -1000000 ≤ b ∧ b ≤ 1000000) (h0 : b ≠ 0) (k : Q (zflr a b) M) : zCt G h sl 0 0 y_Jm_floorDiv [(0, a), (0, b)] M Q := by
  have hd := ztdiv_in (b := b) ha
  have hm := Int.mul_tdiv_add_tmod a b
  have hx := zxor_neg (x := a) (y := b) (by unfold zI; omega) (by unfold zI; omega)
  have hmm : Int.tdiv a b * b = b * Int.tdiv a b := Int.mul_comm _ _
  have hab : zI (Int.tmod a b) := zI_tmod (by unfold zI; omega) h0
  have hmu : (Int.tdiv a b * b).natAbs ≤ a.natAbs := by
    rw [Int.natAbs_mul, Int.natAbs_tdiv]
    exact Nat.div_mul_le_self _ _
  refine E_Jm_floorDiv hsl ⟨h0, ⟨by unfold zI; omega, fun c => ?_, fun c => ⟨?_, fun c2 => ?_, fun c2 => ⟨by unfold zI; omega, ?_⟩⟩⟩⟩
  · have : zflr a b = Int.tdiv a b := by
      unfold zflr
      rw [if_neg h0, if_neg (by omega)]
    rw [this] at k
    exact k
  · unfold zI
    omega
  · have : zflr a b = Int.tdiv a b := by
      unfold zflr
      rw [if_neg h0, if_neg (by omega)]
    rw [this] at k
    exact k
  · have : zflr a b = Int.tdiv a b - 1 := by
      unfold zflr
      rw [if_neg h0, if_pos (by omega)]
    rw [this] at k
    exact k
theorem c_floorMod {G : zG} {h sl : Nat} (hsl : 1 ≤ sl) {a b : Int} {M : zM} {Q : Int → zM → Prop} (ha : zI a) (hb : zI b) (h0 : 0 < b) (k : Q (a % b) M) : zCt G h sl 0 0 y_Jm_floorMod [(0, a), (0, b)] M Q := by
  have hx := zxor_neg (x := a) (y := b) ha hb
  have ht : Int.tmod a b = if 0 ≤ a then a % b else if a % b = 0 then 0 else a % b - b := by
    rw [Int.tmod_eq_emod]
    by_cases c : 0 ≤ a
    · rw [if_pos (Or.inl c), if_pos c]; omega
    · by_cases c2 : b ∣ a
      · rw [if_pos (Or.inr c2), if_neg c, if_pos (Int.emod_eq_zero_of_dvd c2), Int.emod_eq_zero_of_dvd c2]; rfl
      · rw [if_neg (by simp [c, c2]), if_neg c, if_neg (fun e => c2 (Int.dvd_of_emod_eq_zero e))]
        omega
  have h1 := Int.emod_nonneg a (by omega : b ≠ 0)
  have h2 := Int.emod_lt_of_pos a h0
  refine E_Jm_floorMod hsl ⟨by omega, fun c => ?_, fun c => ⟨fun c2 => ?_, fun c2 => ⟨?_, ?_⟩⟩⟩
  · have : Int.tmod a b = a % b := by rw [ht, if_pos (by omega)]
    rw [this]; exact k
  · have : Int.tmod a b = a % b := by
      rw [ht, if_neg (by omega)] at c2 ⊢
      split at c2
      · rename_i e; rw [if_pos e]; omega
      · omega
    rw [this]; exact k
  · rw [ht, if_neg (by omega), if_neg (fun e => c2 (by rw [ht, if_neg (by omega), if_pos e]))]
    unfold zI at *
    omega
  · have : Int.tmod a b + b = a % b := by
      rw [ht, if_neg (by omega), if_neg (fun e => c2 (by rw [ht, if_neg (by omega), if_pos e]))]
      omega
    rw [this]; exact k
theorem zl2i_in {v : Int} (h : zI v) : zl2i v = v := by
  unfold zI at h
  unfold zl2i
  rw [Int64.toInt_toInt32, zl_to (by unfold zL; omega), Int.bmod_eq_of_le (by omega) (by omega)]
theorem zclip_q {v : Int} {M : zM} {Q : Int → zM → Prop} {G : zG} {h sl : Nat} (hsl : 1 ≤ sl) (k : Q (zclip v) M) : zCt G h sl 0 0 y_Jm_min_JJJ [(1, 1000000), (1, v)] M (fun r2 M3 => zCt G h sl 0 0 y_Jm_max_JJJ [(1, (-1000000)), (1, r2)] M3 (fun r4 M5 => Q (zl2i r4) M5)) := by
  have hc := zclip_in v
  have hz : zl2i (zclip v) = zclip v := zl2i_in (by unfold zI; omega)
  refine E_Jm_min_JJJ hsl ⟨fun c => ?_, fun c => ?_⟩
  · refine E_Jm_max_JJJ hsl ⟨fun c2 => ?_, fun c2 => ?_⟩
    · have : zclip v = v := by unfold zclip; rw [if_neg (by omega), if_neg (by omega)]
      rw [this] at k hz; rw [hz]; exact k
    · have : zclip v = -1000000 := by unfold zclip; split <;> (try split) <;> omega
      rw [this] at k hz; rw [hz]; exact k
  · have : zclip v = 1000000 := by unfold zclip; split <;> (try split) <;> omega
    rw [this] at k hz
    refine E_Jm_max_JJJ hsl ⟨fun c2 => ?_, fun c2 => absurd c2 (by omega)⟩
    rw [hz]; exact k
theorem c_joined {G : zG} {h sl : Nat} (hsl : 1 ≤ sl) {v a b : Int} {M : zM} {Q : Int → zM → Prop} (h1 : 1 ≤ v) (h2 : v ≤ 11) (hs : v ≤ 9 → (-1000000 ≤ a ∧ a ≤ 1000000) ∧ (-1000000 ≤ b ∧ b ≤ 1000000)) (hl : 10 ≤ v → (a = 0 ∨ a = 1) ∧ (b = 0 ∨ b = 1)) (k : Q (zop v a b) M) : zCt G (h + 1) sl 0 0 y_Code_joined [(0, v + 3), (0, a), (0, b)] M Q := by
  have hm : v ≤ 9 → zL (a + b) ∧ zL (a - b) ∧ zL (a * b) := fun c => by
    have hs := hs c
    have : (a * b).natAbs ≤ 1000000 * 1000000 := by
      rw [Int.natAbs_mul]
      exact Nat.mul_le_mul (by omega) (by omega)
    unfold zL
    refine ⟨by omega, by omega, by omega⟩
  refine E_Code_joined hsl ⟨fun c => ?_, fun c => ?_, fun c => ?_, fun c => ?_, fun c => ?_, fun c => ?_, fun c => ?_, fun c => ?_, fun c => ?_, fun c => ?_, fun c => ?_, fun c => absurd c (by omega)⟩
  · obtain rfl : v = 1 := by omega
    rw [zop_1] at k
    exact ⟨(hm (by decide)).1, zclip_q hsl k⟩
  · obtain rfl : v = 2 := by omega
    rw [zop_2] at k
    exact ⟨(hm (by decide)).2.1, zclip_q hsl k⟩
  · obtain rfl : v = 3 := by omega
    rw [zop_3] at k
    exact ⟨(hm (by decide)).2.2, zclip_q hsl k⟩
  · obtain rfl : v = 4 := by omega
    rw [zop_4] at k
    refine ⟨fun c0 => c_floorDiv hsl (hs (by decide)).1 (hs (by decide)).2 c0 k, fun c0 => ?_⟩
    have : b = 0 := by omega
    unfold zflr at k
    rw [if_pos this] at k
    exact k
  · obtain rfl : v = 5 := by omega
    rw [zop_5] at k
    refine E_Jm_min_III hsl ⟨fun c2 => ?_, fun c2 => ?_⟩
    · rw [if_neg (by omega)] at k; exact k
    · split at k
      · exact k
      · have : a = b := by omega
        rw [this]; exact k
  · obtain rfl : v = 6 := by omega
    rw [zop_6] at k
    refine E_Jm_max_III hsl ⟨fun c2 => ?_, fun c2 => ?_⟩
    · rw [if_neg (by omega)] at k; exact k
    · split at k
      · exact k
      · have : a = b := by omega
        rw [this]; exact k
  · obtain rfl : v = 7 := by omega
    rw [zop_7] at k
    refine ⟨fun c2 => ?_, fun c2 => ?_⟩
    · rw [if_neg (by omega)] at k; exact k
    · rw [if_pos (by omega)] at k; exact k
  · obtain rfl : v = 8 := by omega
    rw [zop_8] at k
    refine ⟨fun c2 => ?_, fun c2 => ?_⟩
    · rw [if_neg (by omega)] at k; exact k
    · rw [if_pos (by omega)] at k; exact k
  · obtain rfl : v = 9 := by omega
    rw [zop_9] at k
    refine ⟨fun c2 => ?_, fun c2 => ?_⟩
    · rw [if_neg (by omega)] at k; exact k
    · rw [if_pos (by omega)] at k; exact k
  · obtain rfl : v = 10 := by omega
    rw [zop_10] at k
    have e : zand a b = a * b := by
      obtain ⟨ha, hb⟩ := hl (by decide)
      rcases ha with rfl | rfl <;> rcases hb with rfl | rfl <;> decide
    rw [e]; exact k
  · obtain rfl : v = 11 := by omega
    rw [zop_11] at k
    have e : zor a b = if a + b > 0 then 1 else 0 := by
      obtain ⟨ha, hb⟩ := hl (by decide)
      rcases ha with rfl | rfl <;> rcases hb with rfl | rfl <;> decide
    rw [e]; exact k
/-- the component's word for a code; q: of a question -/
def zix (q : Bool) (v : Int) : Int := if 48 ≤ v then v - 48 else if q = true then (if v = 40 then 4 else v - 42) else (if v = 40 then 8 else 9)
def zcc (q : Bool) (v : Int) : Int := if 1000 ≤ v then (v - 1000) * 16 else if 60 ≤ v then (v - 60) * 16 + 2 else if 40 ≤ v then zix q v * 16 + 1 else if v = 13 then 16 else if v = 12 then 3 else v + 3
def zSeg (q : Bool) (M : zM) (a : Int) : Int → List Int → Prop
  | _, [] => True
  | i, v :: r => M a i = zcc q v ∧ zSeg q M a (i + 1) r
def zSk (M : zM) (s : Int) : List Int → Prop
  | [] => True
  | x :: r => M s r.length = x ∧ zSk M s r
theorem zSk_wr {M : zM} {s k x : Int} : ∀ {st : List Int}, zSk M s st → (st.length : Int) ≤ k → zSk (zwr M s k x) s st
  | [], _, _ => trivial
  | y :: r, h, hk => by
    simp only [List.length_cons] at hk
    exact ⟨by rw [zwr_k _ (by omega)]; exact h.1, zSk_wr h.2 (by omega)⟩
theorem zSeg_eq {q : Bool} {M M' : zM} {a : Int} (e : ∀ j, M' a j = M a j) : ∀ {cs : List Int} {i : Int}, zSeg q M a i cs → zSeg q M' a i cs
  | [], _, _ => trivial
  | _ :: _, _, h => ⟨by rw [e]; exact h.1, zSeg_eq e h.2⟩
theorem zcc_nn {q : Bool} {v : Int} (h1 : 1 ≤ v) (hx : 40 ≤ v → v < 60 → 0 ≤ zix q v) : 0 ≤ zcc q v := by
  unfold zcc
  split
  · omega
  · split
    · omega
    · split
      · have := hx (by omega) (by omega)
        omega
      · split <;> (try split) <;> omega
theorem ztm {x : Int} (h : 0 ≤ x) : Int.tmod x 16 = x % 16 ∧ Int.tdiv x 16 = x / 16 := ⟨Int.tmod_eq_emod_of_nonneg h, Int.tdiv_eq_ediv_of_nonneg h⟩
/-- where steps ask: what they are told -/
def zScn (G : zG) (h sl : Nat) (q : Bool) (l3 : Int) (ok : Int → Bool) (E : (Int → Int) × (Int → Int → Int)) (M : zM) : Prop :=
  (∀ v (Q : Int → zM → Prop), 40 ≤ v → v < 60 → ok v = true → Q (E.1 (v - 40)) M → (zK l3 = (8, 0) ∧ zCt G h sl 0 0 y_Tablet_told [(2, l3), (0, zix q v)] M Q) ∨ (zK l3 = (6, 0) ∧ zCt G h sl 0 0 y_Question_told [(2, l3), (0, zix q v)] M Q)) ∧
  (∀ v a (Q : Int → zM → Prop), 60 ≤ v → v ≤ 61 → ok v = true → -1000000 ≤ a ∧ a ≤ 1000000 → Q (E.2 (v - 60) a) M → (zK l3 = (8, 0) ∧ zCt G h sl 0 0 y_Tablet_asked [(2, l3), (0, v - 60), (0, a)] M Q) ∨ (zK l3 = (6, 0) ∧ zCt G h sl 0 0 y_Question_asked [(2, l3), (0, v - 60), (0, a)] M Q))
