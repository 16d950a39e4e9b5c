/-! COLUMNS, the class: arcs, rings. -/
def zPca (l : Int) : Int → Int → Prop := fun a k => a = 72 ∧ (k = 3 ∨ k = 4 ∨ 9 ≤ k ∧ k ≤ 11) ∨ a = l ∧ (k = 3 ∨ k = 4 ∨ 6 ≤ k ∧ k ≤ 8)
theorem zPrs_ca {M M' : zM} {l : Int} (h : zSm zPrs M M') : zSm (zPca l) M M' := h.mono (fun a k p => Or.inl p)
def zPcr (l : Int) : Int → Int → Prop := fun a k => a = 72 ∧ (k = 3 ∨ k = 4 ∨ 9 ≤ k ∧ k ≤ 11) ∨ a = l ∧ (k = 3 ∨ k = 4)
theorem zPrs_cr {M M' : zM} {l : Int} (h : zSm zPrs M M') : zSm (zPcr l) M M' := h.mono (fun a k p => Or.inl p)
def zaY1 (B : Int → Int) (n e : Nat) := zbhs B n (.inr e) zo_of 4 999
def zaY2 (B : Int → Int) (n e : Nat) := zbhs B n (zwe (zaY1 B n e)) zo_at 0 (zvl (zaY1 B n e) - 1)
def zaY3 (B : Int → Int) (n e : Nat) := zbhs B n (zwe (zaY2 B n e)) zo_to 2 (zvl (zaY1 B n e) - 2)
def zaY4 (B : Int → Int) (n e : Nat) := zbhs B n (zwe (zaY3 B n e)) zo_fast 1 (zvl (zaY3 B n e))
def zaY5 (B : Int → Int) (n e : Nat) := zbhs B n (zwe (zaY4 B n e)) zo_slow 1 (zvl (zaY1 B n e) - zvl (zaY3 B n e))
theorem c_arc {G : zG} {h sl : Nat} (hsl : 1 ≤ sl) {B : Int → Int} {n e : Nat} {l : Int} {M : zM} {Q : Int → zM → Prop} (hn : n ≤ 1600) (he : e ≤ n) (hr : zRd B n e M) (hl : zK l = (1, 0)) (hl7 : 73 ≤ l) (q : ∀ M', zSm (zPca l) M M' → zCs B n (zwe (zaY5 B n e)) M' → M' l 3 = zvl (zaY1 B n e) - 1 ∧ M' l 4 = zvl (zaY2 B n e) ∧ M' l 8 = zvl (zaY3 B n e) ∧ M' l 6 = zvl (zaY4 B n e) ∧ M' l 7 = zvl (zaY5 B n e) → Q 0 M') : zCt G (h + 7) sl 0 0 y_Reader_arc [(2, 72), (2, l)] M Q := by
  have wf : ∀ {X : zRs Nat} {M1 : zM} {k v : Int}, zCs B n X M1 → zCs B n X (zwr M1 l k v) := fun hh => hh.fr (fun a k p => by rw [zwr_o _ (by omega)])
  have up : ∀ {M1 M2 : zM} {k : Int}, zSm zPrs M1 M2 → M2 l k = M1 l k := fun hh => hh _ _ (by unfold zPrs; omega)
  have cl : ∀ {M1 M2 : zM} {k v : Int}, zSm (zPca l) M M1 → zSm zPrs M1 M2 → (k = 3 ∨ k = 4 ∨ 6 ≤ k ∧ k ≤ 8) → zSm (zPca l) M (zwr M2 l k v) := fun ha hb hk => (ha.trans (zPrs_ca hb)).wr (Or.inr ⟨rfl, hk⟩)
  refine E_Reader_arc hsl (c_nbs hsl hn (X := .inr e) ⟨he, hr⟩ zr_of (fun M1 h1 x1 => ?_))
  have e1 : zbhs B n (.inr e) zo_of 4 999 = zaY1 B n e := rfl
  rw [e1] at x1 ⊢
  have b1 : -1 ≤ zvl (zaY1 B n e) ∧ zvl (zaY1 B n e) ≤ 9999 := zvl_in B n _ (fun a b => by injection b with b; omega) _ _ _
  refine ⟨by unfold zI; omega, hl, c_nbs hsl hn (wf x1) zr_at (fun M2 h2 x2 => ⟨by unfold zI; omega, ?_⟩)⟩
  have e2 : zbhs B n (zwe (zaY1 B n e)) zo_at 0 (zvl (zaY1 B n e) - 1) = zaY2 B n e := rfl
  rw [e2] at x2 ⊢
  refine c_nbs hsl hn (wf x2) zr_to (fun M3 h3 x3 => ?_)
  have e3 : zbhs B n (zwe (zaY2 B n e)) zo_to 2 (zvl (zaY1 B n e) - 2) = zaY3 B n e := rfl
  rw [e3] at x3 ⊢
  have b3 : -1 ≤ zvl (zaY3 B n e) ∧ zvl (zaY3 B n e) ≤ 9999 := zvl_in B n _ x2.le _ _ _
  rw [zwr_s]
  refine c_nbs hsl hn (wf x3) zr_fast (fun M4 h4 x4 => ?_)
  have e4 : zbhs B n (zwe (zaY3 B n e)) zo_fast 1 (zvl (zaY3 B n e)) = zaY4 B n e := rfl
  rw [e4] at x4 ⊢
  have m48 : (zwr M4 l 6 (zvl (zaY4 B n e))) l 8 = zvl (zaY3 B n e) := by rw [zwr_k _ (by decide), up h4, zwr_s]
  rw [m48]
  refine ⟨by unfold zI; omega, c_nbs hsl hn (wf x4) zr_slow (fun M5 h5 x5 => ?_)⟩
  have e5 : zbhs B n (zwe (zaY4 B n e)) zo_slow 1 (zvl (zaY1 B n e) - zvl (zaY3 B n e)) = zaY5 B n e := rfl
  rw [e5] at x5 ⊢
  have z1 := cl (v := zvl (zaY1 B n e) - 1) (zSm.refl _ M) h1 (k := 3) (by decide)
  have z2 := cl (v := zvl (zaY2 B n e)) z1 h2 (k := 4) (by decide)
  have z3 := cl (v := zvl (zaY3 B n e)) z2 h3 (k := 8) (by decide)
  have z4 := cl (v := zvl (zaY4 B n e)) z3 h4 (k := 6) (by decide)
  have z5 := cl (v := zvl (zaY5 B n e)) z4 h5 (k := 7) (by decide)
  refine q _ z5 (wf x5) ⟨?_, ?_, ?_, ?_, zwr_s _ _ _ _⟩
  · rw [zwr_k _ (by decide), up h5, zwr_k _ (by decide), up h4, zwr_k _ (by decide), up h3, zwr_k _ (by decide), up h2, zwr_s]
  · rw [zwr_k _ (by decide), up h5, zwr_k _ (by decide), up h4, zwr_k _ (by decide), up h3, zwr_s]
  · rw [zwr_k _ (by decide), up h5]; exact m48
  · rw [zwr_k _ (by decide), up h5, zwr_s]
def zrY1 (B : Int → Int) (n e : Nat) := zbhs B n (.inr e) zo_of 2 999
def zrY2 (B : Int → Int) (n e : Nat) := zbhs B n (zwe (zrY1 B n e)) zo_at 0 (zvl (zrY1 B n e) - 1)
/-- a word is taken -/
def ztkw (B : Int → Int) (n : Nat) (X : zRs Nat) (w : List Int) : zRs Nat := zbd X (fun e => if zwrd B n e w = true then .inr (zto B n e) else .inl (1, (zfr B n e : Nat)))
def zrY3 (B : Int → Int) (n e : Nat) := ztkw B n (zwe (zrY2 B n e)) zo_by
theorem c_ring {G : zG} {h sl : Nat} (hsl : 1 ≤ sl) {B : Int → Int} {n e : Nat} {l : Int} {M : zM} {Q : Int → zM → Prop} (hn : n ≤ 1600) (he : e ≤ n) (hr : zRd B n e M) (hl : zK l = (1, 0)) (hl7 : 73 ≤ l) (q : ∀ M', zSm (zPcr l) M M' → zCs B n (zrY3 B n e) M' → M' l 3 = zvl (zrY1 B n e) - 1 ∧ M' l 4 = zvl (zrY2 B n e) → Q 0 M') : zCt G (h + 7) sl 0 0 y_Reader_ring [(2, 72), (2, l)] M Q := by
  have wf : ∀ {X : zRs Nat} {M1 : zM} {k v : Int}, zCs B n X M1 → zCs B n X (zwr M1 l k v) := fun hh => hh.fr (fun a k p => by rw [zwr_o _ (by omega)])
  have up : ∀ {M1 M2 : zM} {k : Int}, zSm zPrs M1 M2 → M2 l k = M1 l k := fun hh => hh _ _ (by unfold zPrs; omega)
  have cl : ∀ {M1 M2 : zM} {k v : Int}, zSm (zPcr l) M M1 → zSm zPrs M1 M2 → (k = 3 ∨ k = 4) → zSm (zPcr l) M (zwr M2 l k v) := fun ha hb hk => (ha.trans (zPrs_cr hb)).wr (Or.inr ⟨rfl, hk⟩)
  refine E_Reader_ring hsl (c_nbs hsl hn (X := .inr e) ⟨he, hr⟩ zr_of (fun M1 h1 x1 => ?_))
  have e1 : zbhs B n (.inr e) zo_of 2 999 = zrY1 B n e := rfl
  rw [e1] at x1 ⊢
  have b1 : -1 ≤ zvl (zrY1 B n e) ∧ zvl (zrY1 B n e) ≤ 9999 := zvl_in B n _ (fun a b => by injection b with b; omega) _ _ _
  rw [zwr_s]
  refine ⟨by unfold zI; omega, hl, c_nbs hsl hn (wf x1) zr_at (fun M2 h2 x2 => ?_)⟩
  have e2 : zbhs B n (zwe (zrY1 B n e)) zo_at 0 (zvl (zrY1 B n e) - 1) = zrY2 B n e := rfl
  rw [e2] at x2 ⊢
  have z1 := cl (v := zvl (zrY1 B n e) - 1) (zSm.refl _ M) h1 (k := 3) (by decide)
  have z2 := cl (v := zvl (zrY2 B n e)) z1 h2 (k := 4) (by decide)
  have x3 := wf (k := 4) (v := zvl (zrY2 B n e)) x2
  have m3 : (zwr M2 l 4 (zvl (zrY2 B n e))) l 3 = zvl (zrY1 B n e) - 1 := by rw [zwr_k _ (by decide), up h2, zwr_s]
  have m4 : (zwr M2 l 4 (zvl (zrY2 B n e))) l 4 = zvl (zrY2 B n e) := zwr_s _ _ _ _
  generalize zwr M2 l 4 (zvl (zrY2 B n e)) = M3 at z2 x3 m3 m4
  unfold zrY3 ztkw at q
  cases c5 : zwe (zrY2 B n e) with
  | inl x =>
    rw [c5] at q x3
    have hf : ¬ M3 72 3 = 0 := by rw [x3.1.1]; exact x3.2
    exact ⟨fun _ => q M3 z2 x3 ⟨m3, m4⟩, fun y => absurd hf y⟩
  | inr e5 =>
    rw [c5] at q x3
    rw [zbd_ok] at q
    refine ⟨fun y => absurd x3.2.1.2.2 y, fun _ => c_takeW (h := h + 1) hsl hn x3.1 x3.2 zr_by (fun cd M7 h7 g7 => ?_) (fun cd M7 h7 a7 => ?_)⟩
    · rw [if_pos cd] at q
      exact q M7 (z2.trans (zPrs_cr h7)) ⟨(zto_b x3.1).2.1, g7⟩ ⟨by rw [up h7]; exact m3, by rw [up h7]; exact m4⟩
    · rw [if_neg cd] at q
      exact q M7 (z2.trans (zPrs_cr h7)) ⟨a7, show (1 : Int) ≠ 0 by decide⟩ ⟨by rw [up h7]; exact m3, by rw [up h7]; exact m4⟩
