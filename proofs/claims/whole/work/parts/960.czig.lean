/-! COLUMNS, the class: what stands behind a name. -/
theorem zr_from : zWr (-44) zo_from := zWr_of 21 (by decide +kernel)
theorem zr_to : zWr (-46) zo_to := zWr_of 22 (by decide +kernel)
theorem zr_by : zWr (-48) zo_by := zWr_of 23 (by decide +kernel)
theorem zr_at : zWr (-50) zo_at := zWr_of 24 (by decide +kernel)
theorem zr_up : zWr (-52) zo_up := zWr_of 25 (by decide +kernel)
theorem zr_down : zWr (-54) zo_down := zWr_of 26 (by decide +kernel)
theorem zr_of : zWr (-56) zo_of := zWr_of 27 (by decide +kernel)
theorem zr_fast : zWr (-58) zo_fast := zWr_of 28 (by decide +kernel)
theorem zr_slow : zWr (-60) zo_slow := zWr_of 29 (by decide +kernel)
theorem zr_is : zWr (-62) zo_is := zWr_of 30 (by decide +kernel)
/-- where it goes on; what was told, -1 in a fault -/
def zwe (Y : zRs (Nat × Int)) : zRs Nat := zbd Y (fun y => .inr y.1)
def zvl (Y : zRs (Nat × Int)) : Int := match Y with
  | .inr y => y.2
  | .inl _ => -1
/-- the reader goes on there, or a fault stands -/
def zCs (B : Int → Int) (n : Nat) (X : zRs Nat) (M : zM) : Prop := match X with
  | .inr e => e ≤ n ∧ zRd B n e M
  | .inl x => zRF x.1 x.2 M ∧ x.1 ≠ 0
def zbhs (B : Int → Int) (n : Nat) (X : zRs Nat) (w : List Int) (lo hi : Int) : zRs (Nat × Int) := zbd X (fun e => zbeh B n e w lo hi)
theorem zCs.fr {B : Int → Int} {n : Nat} {X : zRs Nat} {M M' : zM} (f : ∀ a k, a = 2 ∧ k = 1 ∨ a = 3 ∨ a = 72 ∧ (k = 3 ∨ k = 4 ∨ 9 ≤ k ∧ k ≤ 11) → M' a k = M a k) (h : zCs B n X M) : zCs B n X M' := by
  cases X with
  | inl x => exact ⟨⟨by rw [f _ _ (by omega)]; exact h.1.1, by rw [f _ _ (by omega)]; exact h.1.2⟩, h.2⟩
  | inr e => exact ⟨h.1, h.2.fr f⟩
theorem zvl_in (B : Int → Int) (n : Nat) (X : zRs Nat) (hX : ∀ e, X = .inr e → e ≤ n) (w : List Int) (lo hi : Int) : -1 ≤ zvl (zbhs B n X w lo hi) ∧ zvl (zbhs B n X w lo hi) ≤ 9999 := by
  cases X with
  | inl x => exact ⟨show (-1 : Int) ≤ -1 by decide, show (-1 : Int) ≤ 9999 by decide⟩
  | inr e =>
    show -1 ≤ zvl (zbeh B n e w lo hi) ∧ zvl (zbeh B n e w lo hi) ≤ 9999
    cases c : zbeh B n e w lo hi with
    | inl x => exact ⟨show (-1 : Int) ≤ -1 by decide, show (-1 : Int) ≤ 9999 by decide⟩
    | inr y =>
      have := zbeh_ok (hX e rfl) c
      exact ⟨by show -1 ≤ y.2; omega, by show y.2 ≤ 9999; omega⟩
theorem zCs.le {B : Int → Int} {n : Nat} {X : zRs Nat} {M : zM} (h : zCs B n X M) : ∀ e, X = .inr e → e ≤ n := fun e he => by
  subst he
  exact h.1
theorem c_nbs {G : zG} {h sl : Nat} (hsl : 1 ≤ sl) {B : Int → Int} {n : Nat} {X : zRs Nat} {r lo hi : Int} {w : List Int} {M : zM} {Q : Int → zM → Prop} (hn : n ≤ 1600) (hX : zCs B n X M) (hw : zWr r w) (q : ∀ M', zSm zPrs M M' → zCs B n (zwe (zbhs B n X w lo hi)) M' → Q (zvl (zbhs B n X w lo hi)) M') : zCt G (h + 6) sl 0 0 y_Reader_numberBehind [(2, 72), (2, r), (0, lo), (0, hi)] M Q := by
  cases X with
  | inl x => exact c_numberBehindF (h := h + 5) hsl (by rw [hX.1.1]; exact hX.2) (q M (zSm.refl _ M) hX)
  | inr e =>
    have hz : zbhs B n (.inr e) w lo hi = zbeh B n e w lo hi := rfl
    rw [hz] at q
    refine c_numberBehind hsl hn hX.1 hX.2 hw (fun e' v c M1 h1 g1 => ?_) (fun f p c M1 h1 a1 => ?_)
    · rw [c] at q
      exact q M1 h1 ⟨(zbeh_ok hX.1 c).2.1, g1⟩
    · rw [c] at q
      exact q M1 h1 ⟨a1, zbeh_nz c⟩
def zPcl (l : Int) : Int → Int → Prop := fun a k => a = 72 ∧ (k = 3 ∨ k = 4 ∨ 9 ≤ k ∧ k ≤ 11) ∨ a = l ∧ 2 ≤ k ∧ k ≤ 6
theorem zPrs_cl {M M' : zM} {l : Int} (h : zSm zPrs M M') : zSm (zPcl l) M M' := h.mono (fun a k p => Or.inl p)
/-- up or down -/
def zupd (B : Int → Int) (n : Nat) (X : zRs Nat) : zRs (Nat × Int) := zbd X (fun e => if zwrd B n e zo_up = true then .inr (zto B n e, 1) else if zwrd B n e zo_down = true then .inr (zto B n e, 0) else .inl (1, (zfr B n e : Nat)))
def zgY1 (B : Int → Int) (n e : Nat) := zbhs B n (.inr e) zo_from 0 999
def zgY2 (B : Int → Int) (n e : Nat) := zbhs B n (zwe (zgY1 B n e)) zo_to (zvl (zgY1 B n e) + 1) 999
def zgY3 (B : Int → Int) (n e : Nat) := zbhs B n (zwe (zgY2 B n e)) zo_by 1 (zvl (zgY2 B n e) - zvl (zgY1 B n e))
def zgY4 (B : Int → Int) (n e : Nat) := zbhs B n (zwe (zgY3 B n e)) zo_at (zvl (zgY1 B n e)) (zvl (zgY2 B n e))
def zgY5 (B : Int → Int) (n e : Nat) := zupd B n (zwe (zgY4 B n e))
theorem c_zig {G : zG} {h sl : Nat} (hsl : 1 ≤ sl) {B : Int → Int} {n e : Nat} {l : Int} {M : zM} {Q : Int → zM → Prop} (hn : n ≤ 1600) (he : e ≤ n) (hr : zRd B n e M) (hl : zK l = (1, 0)) (hl7 : 73 ≤ l) (q : ∀ M', zSm (zPcl l) M M' → zCs B n (zwe (zgY5 B n e)) M' → (∀ e' v, zgY5 B n e = .inr (e', v) → M' l 2 = zvl (zgY1 B n e) ∧ M' l 3 = zvl (zgY2 B n e) ∧ M' l 6 = zvl (zgY3 B n e) ∧ M' l 4 = zvl (zgY4 B n e) ∧ M' l 5 = v) → Q 0 M') : zCt G (h + 7) sl 0 0 y_Reader_zig [(2, 72), (2, l)] M Q := by
  have wf : ∀ {X : zRs Nat} {M1 : zM} {k v : Int}, zCs B n X M1 → zCs B n X (zwr M1 l k v) := fun hh => hh.fr (fun a k p => by rw [zwr_o _ (by omega)])
  refine E_Reader_zig hsl (c_nbs hsl hn (X := .inr e) ⟨he, hr⟩ zr_from (fun M1 h1 x1 => ⟨hl, ?_⟩))
  have e1 : zbhs B n (.inr e) zo_from 0 999 = zgY1 B n e := rfl
  rw [e1] at x1 ⊢
  have b1 : -1 ≤ zvl (zgY1 B n e) ∧ zvl (zgY1 B n e) ≤ 9999 := zvl_in B n _ (fun a b => by injection b with b; omega) _ _ _
  rw [zwr_s]
  refine ⟨by unfold zI; omega, c_nbs hsl hn (wf x1) zr_to (fun M2 h2 x2 => ?_)⟩
  have e2 : zbhs B n (zwe (zgY1 B n e)) zo_to (zvl (zgY1 B n e) + 1) 999 = zgY2 B n e := rfl
  rw [e2] at x2 ⊢
  have b2 : -1 ≤ zvl (zgY2 B n e) ∧ zvl (zgY2 B n e) ≤ 9999 := zvl_in B n _ x1.le _ _ _
  have m2 : M2 l 2 = zvl (zgY1 B n e) := by rw [h2 _ _ (by unfold zPrs; omega), zwr_s]
  have f3 : (zwr M2 l 3 (zvl (zgY2 B n e))) l 2 = zvl (zgY1 B n e) := by rw [zwr_k _ (by decide)]; exact m2
  rw [zwr_s, f3]
  refine ⟨by unfold zI; omega, c_nbs hsl hn (wf x2) zr_by (fun M3 h3 x3 => ?_)⟩
  have e3 : zbhs B n (zwe (zgY2 B n e)) zo_by 1 (zvl (zgY2 B n e) - zvl (zgY1 B n e)) = zgY3 B n e := rfl
  rw [e3] at x3 ⊢
  have m32 : M3 l 2 = zvl (zgY1 B n e) := by rw [h3 _ _ (by unfold zPrs; omega)]; exact f3
  have m33 : M3 l 3 = zvl (zgY2 B n e) := by rw [h3 _ _ (by unfold zPrs; omega), zwr_s]
  have f42 : (zwr M3 l 6 (zvl (zgY3 B n e))) l 2 = zvl (zgY1 B n e) := by rw [zwr_k _ (by decide)]; exact m32
  have f43 : (zwr M3 l 6 (zvl (zgY3 B n e))) l 3 = zvl (zgY2 B n e) := by rw [zwr_k _ (by decide)]; exact m33
  rw [f42, f43]
  refine c_nbs hsl hn (wf x3) zr_at (fun M4 h4 x4 => ?_)
  have e4 : zbhs B n (zwe (zgY3 B n e)) zo_at (zvl (zgY1 B n e)) (zvl (zgY2 B n e)) = zgY4 B n e := rfl
  rw [e4] at x4 ⊢
  have m4 : ∀ k, k ≠ 6 → M4 l k = M3 l k := fun k hk => by rw [h4 _ _ (by unfold zPrs; omega), zwr_k _ hk]
  have m46 : M4 l 6 = zvl (zgY3 B n e) := by rw [h4 _ _ (by unfold zPrs; omega), zwr_s]
  have z1 : zSm (zPcl l) M (zwr M1 l 2 (zvl (zgY1 B n e))) := (zPrs_cl h1).wr (Or.inr ⟨rfl, by decide⟩)
  have z2 : zSm (zPcl l) M (zwr M2 l 3 (zvl (zgY2 B n e))) := (z1.trans (zPrs_cl h2)).wr (Or.inr ⟨rfl, by decide⟩)
  have z3 : zSm (zPcl l) M (zwr M3 l 6 (zvl (zgY3 B n e))) := (z2.trans (zPrs_cl h3)).wr (Or.inr ⟨rfl, by decide⟩)
  have z4 : zSm (zPcl l) M (zwr M4 l 4 (zvl (zgY4 B n e))) := (z3.trans (zPrs_cl h4)).wr (Or.inr ⟨rfl, by decide⟩)
  have x5 := wf (k := 4) (v := zvl (zgY4 B n e)) x4
  have n5 : ∀ k, k ≠ 4 → (zwr M4 l 4 (zvl (zgY4 B n e))) l k = M4 l k := fun k hk => zwr_k _ hk
  have n54 : (zwr M4 l 4 (zvl (zgY4 B n e))) l 4 = zvl (zgY4 B n e) := zwr_s _ _ _ _
  generalize zwr M4 l 4 (zvl (zgY4 B n e)) = M5 at z4 x5 n5 n54
  unfold zgY5 at q
  cases c5 : zwe (zgY4 B n e) with
  | inl x =>
    rw [c5] at q x5
    have hf : ¬ M5 72 3 = 0 := by rw [x5.1.1]; exact x5.2
    exact ⟨fun _ => q M5 z4 x5 (fun e' v y => by nomatch y), fun y => absurd hf y⟩
  | inr e5 =>
    rw [c5] at q x5
    unfold zupd at q
    rw [zbd_ok] at q
    refine ⟨fun y => absurd x5.2.1.2.2 y, fun _ => c_tryW hsl hn x5.1 x5.2 zr_up (fun cu M6 h6 g6 => ?_) (fun cu => ?_)⟩
    · rw [if_pos cu] at q
      have z6 : zSm (zPcl l) M (zwr M6 l 5 1) := (z4.trans (zPrs_cl h6)).wr (Or.inr ⟨rfl, by decide⟩)
      have m6 : ∀ k, k ≠ 5 → (zwr M6 l 5 1) l k = M5 l k := fun k hk => by rw [zwr_k _ hk, h6 _ _ (by unfold zPrs; omega)]
      refine ⟨fun _ => q _ z6 ⟨(zto_b x5.1).2.1, g6.fr (fun a k p => by rw [zwr_o _ (by omega)])⟩ (fun e' v y => ?_), fun y => absurd (by rw [zwr_s]; decide) y⟩
      injection y with y; injection y with y1 y2
      rw [m6 2 (by decide), m6 3 (by decide), m6 6 (by decide), m6 4 (by decide), zwr_s, n54, n5 2 (by decide), n5 3 (by decide), n5 6 (by decide), m46, m4 2 (by decide), m4 3 (by decide)]
      exact ⟨m32, m33, rfl, rfl, y2⟩
    · rw [if_neg cu] at q
      have z6 : zSm (zPcl l) M (zwr M5 l 5 0) := z4.wr (Or.inr ⟨rfl, by decide⟩)
      refine ⟨fun y => absurd (zwr_s _ _ _ _) y, fun _ => c_takeW hsl hn x5.1 (x5.2.fr (fun a k p => by rw [zwr_o _ (by omega)])) zr_down (fun cd M7 h7 g7 => ?_) (fun cd M7 h7 a7 => ?_)⟩
      · rw [if_pos cd] at q
        have m7 : ∀ k, k ≠ 5 → M7 l k = M5 l k := fun k hk => by rw [h7 _ _ (by unfold zPrs; omega), zwr_k _ hk]
        refine q M7 (z6.trans (zPrs_cl h7)) ⟨(zto_b x5.1).2.1, g7⟩ (fun e' v y => ?_)
        injection y with y; injection y with y1 y2
        rw [m7 2 (by decide), m7 3 (by decide), m7 6 (by decide), m7 4 (by decide), h7 l 5 (by unfold zPrs; omega), zwr_s, n54, n5 2 (by decide), n5 3 (by decide), n5 6 (by decide), m46, m4 2 (by decide), m4 3 (by decide)]
        exact ⟨m32, m33, rfl, rfl, y2⟩
      · rw [if_neg cd] at q
        exact q M7 (z6.trans (zPrs_cl h7)) ⟨a7, show (1 : Int) ≠ 0 by decide⟩ (fun e' v y => by nomatch y)
