/-! THE MODEL: what it tells of now (promises 5 - 10, 31, 33). -/
theorem m_has {G : zG} {h sl : Nat} (hsl : 2 ≤ sl) {T : zTb} {L : Int → Int} {N rm ac w : Int} {M : zM} {Q : Int → zM → Prop} (hP : zPu T L) (hC : zMk T L M) (hN : M 164 17 = zkt4 N) (hr : M 125 62 = rm) (ha : M 125 66 = ac) (q : ∀ M', zSm zPB M M' → zMk T L M' → Q (zhas T L N rm ac w) M') : zCt G (h + 4) sl 0 0 y_Md_has [(2, 125), (0, w)] M Q := by
  have q0 := q M (zSm.refl _ _) hC
  have h0 := hP.2.1.1
  unfold zhas at q q0
  refine E_Md_has hsl ⟨fun g => E_Md_columnMany hsl ?_, fun g => ?_, fun g => c_isMarkedM hsl hP.1 hP.2.1 hC.1 hC.2.1 (fun M' hM => ?_), fun g => c_wrongMany hsl hP.1 hC.1 hC.2.1 hC.2.2 ⟨h0, hP.2.2⟩ ?_, fun g => ?_, fun g => ?_, fun g => ?_, fun g => ?_⟩
  · rw [hC.1.two]; rw [if_pos g] at q0; exact q0
  · subst g; rw [hC.2.1.1]; exact q0
  · subst g
    have qq := q M' (zPS_PB hM) (hC.frB hP.1 (zPS_PB hM))
    rcases zmk_01 T L with e | e
    · refine ⟨fun _ => ?_, fun g => absurd e g⟩
      rw [e] at qq; exact qq
    · refine ⟨fun g => absurd (e.symm.trans g) (by decide), fun _ => ?_⟩
      rw [e] at qq; exact qq
  · subst g; exact q0
  · subst g; rw [hN]; exact q0
  · subst g; rw [hr]; exact q0
  · subst g; rw [ha]; exact q0
  · rw [if_neg (by omega), if_neg (by omega), if_neg (by omega), if_neg (by omega), if_neg (by omega), if_neg (by omega), if_neg (by omega)] at q0; exact q0
theorem m_column {G : zG} {h sl : Nat} (hsl : 2 ≤ sl) {T : zTb} {L : Int → Int} {c w : Int} {M : zM} {Q : Int → zM → Prop} (hP : zPu T L) (hC : zMk T L M) (q : Q (zcol T L c w) M) : zCt G (h + 3) sl 0 0 y_Md_column [(2, 125), (0, c), (0, w)] M Q := by
  have h8 := hP.1.2.1
  unfold zcol at q
  refine E_Md_column hsl (c_isColM hsl hP.1 hC.1 (fun a b => ⟨fun _ => ?_, fun g => absurd (by decide) g⟩) (fun g => ⟨fun g2 => absurd rfl g2, fun _ => ?_⟩))
  · rw [if_pos ⟨a, b⟩] at q
    refine ⟨fun g => c_sortOf hsl a (by omega) ?_, fun g => ⟨by unfold zI; omega, by omega, ?_⟩, fun g => c_leastOf hsl hP.1 hC.1 a b ?_, fun g => c_mostOf hsl hP.1 hC.1 a b ?_, fun g => ?_⟩
    · subst g; rw [(hC.1.2.2.2.1 c a b).1]; exact q
    · subst g; rw [(hC.2.1.2 c a b).2]; exact q
    · subst g; exact q
    · subst g; exact q
    · rw [if_neg (by omega), if_neg (by omega), if_neg (by omega), if_neg (by omega)] at q; exact q
  · rw [if_neg g] at q; exact q
theorem m_value {G : zG} {h sl : Nat} (hsl : 2 ≤ sl) {T : zTb} {L : Int → Int} {c w : Int} {M : zM} {Q : Int → zM → Prop} (hP : zPu T L) (hC : zMk T L M) (q : Q (zvlu T L c w) M) : zCt G (h + 2) sl 0 0 y_Md_value [(2, 125), (0, c), (0, w)] M Q := by
  have h8 := hP.1.2.1
  have h0 := hP.2.1.1
  unfold zvlu at q
  refine E_Md_value hsl (c_isColM hsl hP.1 hC.1 (fun a b => ⟨fun g => absurd g (by decide), fun _ => c_isIn hsl (fun a1 b1 => ⟨fun _ => ⟨fun g3 => ?_, fun g3 => c_valueOf hsl a (by omega) ?_⟩, fun g => absurd (by decide) g⟩) (fun g => ⟨fun g2 => absurd rfl g2, fun _ => ?_⟩)⟩) (fun g => ⟨fun _ => ?_, fun g2 => absurd rfl g2⟩))
  · rw [if_pos ⟨⟨a, b⟩, a1, b1⟩, if_neg g3] at q
    rw [hC.2.1.1]
    exact c_trueOf hsl hP.1 hC.2.2 h0 hP.2.2 a b q
  · rw [if_pos ⟨⟨a, b⟩, a1, b1⟩, if_pos (by omega)] at q
    rw [(hC.2.1.2 c a b).1]; exact q
  · rw [if_neg (by omega)] at q; exact q
  · rw [if_neg (by omega)] at q; exact q
theorem m_kept {G : zG} {h sl : Nat} (hsl : 2 ≤ sl) {N k w : Int} {kl ku : Int → Int} {M : zM} {Q : Int → zM → Prop} (h0 : 0 ≤ N) (hk : zKm N kl ku M) (q : Q (zkpt N kl ku k w) M) : zCt G (h + 1) sl 0 0 y_Md_kept [(2, 125), (0, k), (0, w)] M Q := by
  have hz : 0 ≤ zkt4 N ∧ zkt4 N ≤ 40 := by unfold zkt4; split <;> omega
  unfold zkpt at q
  refine E_Md_kept hsl ?_
  rw [hk.1]
  refine ⟨by unfold zI; omega, c_isIn hsl (fun a b => ⟨fun g => absurd g (by decide), fun _ => c_isIn hsl (fun a1 b1 => ⟨fun g => absurd g (by decide), fun _ => ⟨by unfold zI; omega, by unfold zI; omega, by unfold zI; omega, by omega, ?_⟩⟩) (fun g => ⟨fun _ => ?_, fun g2 => absurd rfl g2⟩)⟩) (fun g => ⟨fun _ => ?_, fun g2 => absurd rfl g2⟩)⟩
  · have hh := hk.2 k a (by omega)
    by_cases c : w = 0
    · subst c
      rw [if_pos (by omega), if_pos rfl] at q
      rw [show 18 + 2 * k + 0 = 18 + 2 * k from by omega, hh.1]; exact q
    · obtain rfl : w = 1 := by omega
      rw [if_pos (by omega), if_neg (by decide)] at q
      rw [show 18 + 2 * k + 1 = 19 + 2 * k from by omega, hh.2]; exact q
  · rw [if_neg (by omega)] at q; exact q
  · rw [if_neg (by omega)] at q; exact q
theorem m_fault {G : zG} {h sl : Nat} (hsl : 2 ≤ sl) {w : Int} {M : zM} {Q : Int → zM → Prop} (q : Q (zfau (M 125 7) (M 125 8) w) M) : zCt G h sl 0 0 y_Md_fault [(2, 125), (0, w)] M Q := by
  unfold zfau at q
  refine E_Md_fault hsl ⟨fun g => ⟨fun g2 => ?_, fun g2 => ?_⟩, fun g => ?_⟩
  · rw [if_neg g, if_neg g2] at q; exact q
  · rw [if_neg g, if_pos (by omega)] at q; exact q
  · rw [if_pos (by omega)] at q; exact q
theorem m_octet {G : zG} {h sl : Nat} (hsl : 2 ≤ sl) {k pl : Int} {P : Int → Int} {M : zM} {Q : Int → zM → Prop} (h1 : M 125 100 = pl) (hp : pl ≤ 35) (hP : zAr M 196 pl P) (q : Q (zoct pl P k) M) : zCt G h sl 0 0 y_Md_octet [(2, 125), (0, k)] M Q := by
  unfold zoct at q
  refine E_Md_octet hsl ⟨fun g => ?_, fun g => ⟨fun g2 => ?_, fun g2 => ⟨by omega, ?_⟩⟩⟩
  · rw [if_neg (by omega)] at q; exact q
  · rw [if_neg (by omega)] at q; exact q
  · rw [if_pos (by omega)] at q; rw [hP k (by omega) (by omega)]; exact q
theorem m_status {G : zG} {h sl : Nat} (hsl : 2 ≤ sl) {k : Int} {Rf : Int → Int} {M : zM} {Q : Int → zM → Prop} (hR : zAr M 127 6 Rf) (q : Q (zsta Rf k) M) : zCt G (h + 1) sl 0 0 y_Md_status [(2, 125), (0, k)] M Q := by
  unfold zsta at q
  refine E_Md_status hsl (c_isIn hsl (fun a b => ⟨fun g => absurd g (by decide), fun _ => ⟨by omega, ?_⟩⟩) (fun g => ⟨fun _ => ?_, fun g2 => absurd rfl g2⟩))
  · rw [if_pos (by omega)] at q; rw [hR k (by omega) (by omega)]; exact q
  · rw [if_neg (by omega)] at q; exact q
