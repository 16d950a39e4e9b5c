theorem zLc.ext {n n' : Int} {L L' : Int → Int} {M : zM} {l : Int} (hn : n' ≤ n) (e0 : L 0 = L' 0) (e : ∀ c, 0 ≤ c → c < n' → L (1 + c) = L' (1 + c) ∧ L (9 + c) = L' (9 + c)) (h : zLc n L M l) : zLc n' L' M l :=
  ⟨by rw [← e0]; exact h.1, h.2.1, fun c c0 cc => by rw [← (e c c0 cc).1, ← (e c c0 cc).2]; exact h.2.2 c c0 (by omega)⟩
theorem zLc.more {k : Nat} {L : Int → Int} {M : zM} {l : Int} (hk : k < 8) (h : zLc k L M l) : zLc ((k : Int) + 1) (zup (zup L (1 + k) (M (l + 1) k)) (9 + k) (zbt (M l 2) k)) M l := by
  refine ⟨by rw [zup_o _ _ (by omega), zup_o _ _ (by omega)]; exact h.1, h.2.1, fun c c0 cc => ?_⟩
  by_cases q : c = k
  · subst q
    rw [zup_s, zup_o _ _ (by omega), zup_s]
    exact ⟨rfl, rfl⟩
  · rw [zup_o _ _ (by omega), zup_o _ _ (by omega), zup_o _ _ (by omega), zup_o _ _ (by omega)]
    exact h.2.2 c c0 (by omega)
theorem c_isMarkedC {G : zG} {h sl : Nat} (hsl : 1 ≤ sl) {T : zTb} {t l : Int} {L : Int → Int} {M : zM} {Q : Int → zM → Prop} (ht : zK t = (8, 0)) (hlt : l + 1 < t) (hk : zK l = (4, 0)) (hT : zTok T) (hL : zLok T (T.1 8 0) L) (hm : zTc T M t) (hl : zLc (T.1 8 0) L M l) (q : ∀ M', zSm (zPC t l) M M' → (∀ a k, a < t → M' a k = M a k) → Q (zmk T L) M') : zCt G (h + 3) sl 0 0 y_Tablet_isMarked [(2, t), (2, l)] M Q := by
  have hM1 : zSm (zPC t l) M (zwr M t 8 l) := (zSm.refl _ M).wr (Or.inr (Or.inl ⟨rfl, Or.inl rfl⟩))
  have el : ∀ a k, a < t → (zwr M t 8 l) a k = M a k := fun a k ha => zwr_o _ (by omega)
  have hm1 := hm.fr hlt hM1
  have hz := hT.2.2.2.2.2.2.1
  unfold zmk at q
  refine E_Tablet_isMarked hsl ⟨ht, fun g => ?_, fun g => ?_⟩
  · rw [hm1.1.2.2.2.1] at g
    rw [if_neg (by omega)] at q
    exact q _ hM1 el
  · rw [hm1.1.2.2.2.1] at g
    have h1 : T.1 8 3 = 1 := by omega
    have hz1 : zty (zokT (T.1 8 0) false) (T.2 8) [] = some [true] := by
      rcases hz with hz | hz
      · omega
      · exact hz.2
    rw [if_pos h1] at q
    refine c_runT (h := h) (T := T) (c := 8) (k := T.1 8 0) (n := T.1 8 0) (prev := 0) (pv := false) (L := L) hsl ht hlt hk hT.2.2.2.2.2.2.2 hT.2.1 (by omega) hz1 (hm1.2.2 h1) hm1.1.2.2.2.2 hL (hl.fr (el _ _ (by omega)) (el _ _ (by omega)) (fun j => el _ _ (by omega))) (zwr_s _ _ _ _) (fun c => by cases c) (fun c => by cases c) (fun M' hM' => ?_)
    have := q M' (hM1.trans (hM'.mono (fun _ _ p => Or.inr (Or.inr p)))) (fun a k ha => by rw [hM' a k (by omega), el a k ha])
    refine ⟨fun c => ?_, fun c => ?_⟩
    · rw [if_neg c] at this; exact this
    · rw [if_pos (by omega)] at this; exact this
theorem c_beginL {G : zG} {h sl : Nat} (hsl : 1 ≤ sl) {T : zTb} {t l : Int} {M0 : zM} {Q : Int → zM → Prop} (ht : zK t = (8, 0)) (hlt : l + 1 < t) (hk : zK l = (4, 0)) (hT : zTok T) (q : ∀ M', zSm (zPC t l) M0 M' → zLc (T.1 8 0) (zbg T) M' l → Q 0 M') :
    ∀ (e k : Nat) {M : zM} {u : Nat × Nat × Nat × Nat}, e + k = (T.1 8 0).toNat → zSm (zPC t l) M0 M → zTc T M t → M t 8 = l → M t 9 = 0 → zLc k (zbk T k) M l → zX G (y_Tablet_begin, h + 2 + 1, sl) u 22 [(0, (2, t)), (1, (2, l)), (2, (0, (k : Int)))] [] M Q
  | 0, k, M, u, e, hM, hm, h8, h9, hl => by
    have hn := hT.1
    refine B_Tablet_begin_22 hsl ⟨ht, fun _ => q M hM ?_, fun g => absurd (by rw [hm.1.1]; omega) g⟩
    unfold zbg
    rw [show (T.1 8 0).toNat = k from by omega, show T.1 8 0 = (k : Int) from by omega]
    exact hl
  | e + 1, k, M, u, he, hM, hm, h8, h9, hl => by
    have hn := hT.1
    have hn8 := hT.2.1
    have ho := hm.2.1 k (by omega) (by omega)
    have hok := hT.2.2.2.2.2.2.2 k (by omega) (by omega)
    have hkc := (zs_cols ht (j := (k : Int)) (by omega) (by omega)).2
    have hbk := (zbk_ok hT.2.2.2.2.2.2.2 hT.2.1 k (by omega)).2
    refine B_Tablet_begin_22 hsl ⟨ht, fun g => absurd g (by rw [hm.1.1]; omega), fun _ => ⟨⟨by omega, by omega⟩, hk, ?_⟩⟩
    rw [ho.1.2.2.2.2.1]
    refine c_go hsl hk (hl.more (by omega)) (by omega) (by omega) (by omega) (by unfold zTok1 at hok; omega) (fun w hw => E_Column_moves hsl ⟨hkc, ?_⟩)
    have g1 : zSm (zPC t l) M (zwr M l 2 w) := (zSm.refl _ M).wr (Or.inl (Or.inl ⟨rfl, Or.inr rfl⟩))
    have hm1 := hm.fr hlt g1
    have ho1 := hm1.2.1 k (by omega) (by omega)
    have hw1 : zLc k (zbk T k) (zwr M l 2 w) l := hw.ext (by omega) (by rw [zup_o _ _ (by omega), zup_o _ _ (by omega), zup_o _ _ (by omega)]) (fun c c0 cc => by
      rw [zup_o _ _ (by omega), zup_o _ _ (by omega), zup_o _ _ (by omega), zup_o _ _ (by omega), zup_o _ _ (by omega), zup_o _ _ (by omega)]
      exact ⟨rfl, rfl⟩)
    have hnext : ∀ (M2 : zM) (v : Int), zSm (zPC t l) M M2 → (∀ a j, a < t → M2 a j = (zwr M l 2 w) a j) → M2 t 8 = l → M2 t 9 = 0 → v = (if T.1 k 0 = 3 then zsm T (zbk T k) k 0 else T.1 k 3) → zI ((k : Int) + 1) ∧ zX G (y_Tablet_begin, h + 2 + 1, sl) u 22 [(0, (2, t)), (1, (2, l)), (2, (0, ((k : Int) + 1)))] [] (zwr M2 (l + 1) k v) Q := fun M2 v hM2 e2 e8 e9 ev => by
      have g2 : zSm (zPC t l) M (zwr M2 (l + 1) k v) := hM2.wr (Or.inl (Or.inr rfl))
      have hl2 : zLc ((k + 1 : Nat) : Int) (zbk T (k + 1)) (zwr M2 (l + 1) k v) l := by
        have := (hw.fr (M' := M2) (e2 _ _ (by omega)) (e2 _ _ (by omega)) (fun j => e2 _ _ (by omega))).val (c := (k : Int)) (v := v) (by omega) (by omega)
        rw [zcs, zbk_s, ← ev]
        refine this.ext (by omega) ?_ (fun c c0 cc => ?_)
        · rw [zup_o _ _ (by omega), zup_o _ _ (by omega), zup_o _ _ (by omega), zup_o _ _ (by omega), zup_o _ _ (by omega), zup_o _ _ (by omega)]
        · by_cases qc : c = k
          · subst qc
            rw [zup_s, zup_s, zup_o _ _ (by omega), zup_s, zup_o _ _ (by omega), zup_s]
            exact ⟨rfl, rfl⟩
          · rw [zup_o _ _ (by omega), zup_o _ _ (by omega), zup_o _ _ (by omega), zup_o _ _ (by omega), zup_o _ _ (by omega), zup_o _ _ (by omega), zup_o _ _ (by omega), zup_o _ _ (by omega), zup_o _ _ (by omega), zup_o _ _ (by omega), zup_o _ _ (by omega), zup_o _ _ (by omega)]
            exact ⟨rfl, rfl⟩
      refine ⟨by unfold zI; omega, ?_⟩
      have := c_beginL (G := G) (h := h) (Q := Q) hsl ht hlt hk hT q e (k + 1) (M := zwr M2 (l + 1) k v) (u := u) (by omega) (hM.trans g2) (hm.fr hlt g2) (by rw [zwr_o _ (by omega)]; exact e8) (by rw [zwr_o _ (by omega)]; exact e9) hl2
      rw [zcs] at this
      exact this
    have w8 : (zwr M l 2 w) t 8 = l := by rw [zwr_o _ (by omega)]; exact h8
    have w9 : (zwr M l 2 w) t 9 = 0 := by rw [zwr_o _ (by omega)]; exact h9
    rw [ho1.1.1]
    refine ⟨fun g3 => ⟨fun _ => ?_, fun n => absurd rfl n⟩, fun g3 => ⟨fun n => absurd n (by decide), fun _ => ?_⟩⟩
    · refine c_runT (h := h) (T := T) (c := k) (k := k) (n := k) (prev := 0) (pv := true) (L := zbk T k) hsl ht hlt hk (fun c a b => hT.2.2.2.2.2.2.2 c a (by omega)) (by omega) (by omega) (hok.code (Or.inr g3)) (ho1.2.1 (by omega)) hm1.1.2.2.2.2 hbk hw1 w8 (fun _ => w9) (fun _ => by omega) (fun M' hM' => ?_)
      exact hnext M' _ (g1.trans (hM'.mono (fun _ _ p => Or.inr (Or.inr p)))) (fun a j ha => hM' a j (by omega)) (by rw [hM' _ _ (by omega)]; exact w8) (by rw [hM' _ _ (by omega)]; exact w9) (by rw [if_pos g3]; rfl)
    · exact hnext _ _ g1 (fun a j ha => rfl) w8 w9 (by rw [if_neg g3]; exact ho1.1.2.2.2.1)
