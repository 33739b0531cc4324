/-! THE REFERENCE: calls on travellers, rules, days -/
def zrow (g : Row) (t i : Nat) : Row := fun k => if tI t 0 ≤ k ∧ k < tI t i then 0 else g k
theorem zrow_0 (g : Row) (t : Nat) : zrow g t 0 = g := by
  funext k; unfold zrow; rw [if_neg (by omega)]
theorem zrow_s (g : Row) (t i : Nat) : upd (zrow g t i) (tI t i) 0 = zrow g t (i + 1) := by
  funext k
  by_cases e : k = tI t i
  · subst e
    rw [pk_us]
    unfold zrow
    rw [if_pos (by unfold tI; omega)]
  · rw [pk_un e]
    unfold zrow
    by_cases c : tI t 0 ≤ k ∧ k < tI t i
    · rw [if_pos c, if_pos (by unfold tI at *; omega)]
    · rw [if_neg c, if_neg (by unfold tI at *; omega)]
theorem comF_row {f : Row} {N : Nat} {k0 n0 b0 : Int32} : upd (upd (upd (upd (zrow f N 13) (tI N 0) k0) (tI N 1) n0) (tI N 2) b0) 1 (nI (N + 1)) = comF f N k0 n0 b0 := by
  funext k
  unfold comF
  by_cases k1 : k = 1
  · subst k1; rw [pk_us, if_pos (Eq.refl _)]
  · rw [pk_un k1, if_neg k1]
    by_cases c : tI N 0 ≤ k ∧ k ≤ tI N 12
    · rw [if_pos c]
      by_cases e2 : k = tI N 2
      · subst e2; rw [pk_us, if_neg (by unfold tI; omega), if_neg (by unfold tI; omega), if_pos (Eq.refl _)]
      · rw [pk_un e2]
        by_cases e1 : k = tI N 1
        · subst e1; rw [pk_us, if_neg (by unfold tI; omega), if_pos (Eq.refl _)]
        · rw [pk_un e1]
          by_cases e0 : k = tI N 0
          · subst e0; rw [pk_us, if_pos (Eq.refl _)]
          · rw [pk_un e0, if_neg e0, if_neg e1, if_neg e2]
            unfold zrow
            rw [if_pos (by unfold tI at *; omega)]
    · rw [if_neg c, pk_un (by unfold tI at *; omega), pk_un (by unfold tI at *; omega), pk_un (by unfold tI at *; omega)]
      unfold zrow
      rw [if_neg (by unfold tI at *; omega)]
/-- what the reference may change beside now -/
def FE (mem mem' : ab_N) : Prop := ∀ a, a ≠ 102 → (a < 104 ∨ 108 < a) → a ≠ 115 → a ≠ 116 → mem' a = mem a
def FS (mem mem' : ab_N) : Prop := FE mem mem' ∧ mem' 102 = mem 102
theorem FE.rfl {mem : ab_N} : FE mem mem := fun _ _ _ _ _ => Eq.refl _
theorem FE.trans {m1 m2 m3 : ab_N} (h1 : FE m1 m2) (h2 : FE m2 m3) : FE m1 m3 := fun a a1 a2 a3 a4 => (h2 a a1 a2 a3 a4).trans (h1 a a1 a2 a3 a4)
theorem FE.of {m1 m2 : ab_N} (h : FD m1 m2) : FE m1 m2 := fun a a1 a2 a3 a4 => h a a1 (by omega) (by omega) (by omega) a3 a4
theorem FE.row {mem : ab_N} {f : Row} : FE mem (ab_row mem 102 f) := fun a a1 _ _ _ => row_ne mem f a1
theorem FS.rfl {mem : ab_N} : FS mem mem := ⟨FE.rfl, Eq.refl _⟩
theorem FS.trans {m1 m2 m3 : ab_N} (h1 : FS m1 m2) (h2 : FS m2 m3) : FS m1 m3 := ⟨h1.1.trans h2.1, h2.2.trans h1.2⟩
section ME
variable {l : Launch} {G : ab_G} {ol : ab_Ol} {d : Nat} {sh : ab_S} {rf : ab_R} {mem : ab_N} {nx : Nat} {K : ab_K} {N : Nat} {f : Row}
theorem m_comes (hS : St sh rf nx) (hN : N < 8) (hf : mem 102 = f) (h1 : f 1 = nI N) {k0 n0 b0 : Int32} (h : K (some (.int (nI N))) sh rf (ab_row mem 102 (comF f N k0 n0 b0)) nx) : ab_Cx l G ol (d + 2) mM_comes [.ref 101, .int k0, .int n0, .int b0] sh rf mem nx K := by
  have c1 : Int32.toNatClampNeg (1 : Int32) = 1 := by decide
  refine e_mM_comes (mn hS (pk_in 1 1483 (by decide)) ?_)
  rw [c1, hf, h1]
  suffices lp : ∀ r i, i + r = 13 → ab_Go l G ol (d + 1) mM_comes (ab_mc mM_comes) (ab_ms mM_comes) (fun r sh rf mem nx _ _ => K r sh rf mem nx) 11 [.ref 101, .int k0, .int n0, .int b0, .int (nI N), .int (nI i)] [] sh rf (ab_row mem 102 (zrow f N i)) nx 0 0 by
    have := lp 13 0 (Eq.refl _)
    rw [zrow_0, ← hf, row_id] at this
    exact this
  intro r
  induction r with
  | zero =>
    intro i hi
    have : i = 13 := by omega
    subst this
    refine h_mM_comes_11 ⟨fun _ => ⟨m9 hS, m_put hS (k := 0) hN (by decide) ⟨rfl, m9 hS, m_put hS (k := 1) hN (by decide) ⟨rfl, m9 hS, m_put hS (k := 2) hN (by decide) ⟨rfl, mn hS (pk_in 1 1483 (by decide)) ⟨is_of hS rfl rfl, in_of hS rfl rfl (pk_in 1 1483 (by decide)), trivial, ?_⟩⟩⟩⟩⟩, fun q => absurd (by decide) q⟩
    rw [c1]
    simp only [row_at, row_row]
    rw [w_row, pk_un (by unfold tI; omega), pk_un (by unfold tI; omega), pk_un (by unfold tI; omega)]
    have : zrow f N 13 1 = nI N := by unfold zrow; rw [if_neg (by unfold tI; omega)]; exact h1
    rw [this, nI_1, comF_row]
    exact h
  | succ r ih =>
    intro i hi
    have := ih (i + 1) (by omega)
    refine h_mM_comes_11 ⟨fun q => absurd q (nI_ge (b := 13) (by omega) (by decide)), fun _ => ⟨m9 hS, m_put hS hN (by omega) ⟨rfl, ?_⟩⟩⟩
    rw [row_at, row_row, zrow_s, nI_1]
    exact this
theorem m_traveller (hS : St sh rf nx) (hN : N ≤ 8) (hf : mem 102 = f) (h1 : f 1 = nI N) {a b c : Int32} (hB : ¬ ((0 ≤ a ∧ a ≤ 5) ∧ (0 ≤ b ∧ b ≤ 99) ∧ (0 ≤ c ∧ c ≤ 99)) → K (some (.int (-1000000001))) sh rf mem nx) (hF : (0 ≤ a ∧ a ≤ 5) ∧ (0 ≤ b ∧ b ≤ 99) ∧ (0 ≤ c ∧ c ≤ 99) → N = 8 → K (some (.int (-1000000003))) sh rf mem nx) (hC : (0 ≤ a ∧ a ≤ 5) ∧ (0 ≤ b ∧ b ≤ 99) ∧ (0 ≤ c ∧ c ≤ 99) → N < 8 → K (some (.int (nI N))) sh rf (ab_row mem 102 (comF f N a b c)) nx) : ab_Cx l G ol (d + 3) mM_traveller [.ref 101, .int a, .int b, .int c] sh rf mem nx K := by
  refine e_mM_traveller ⟨by decide, m_in ⟨_, rfl, br0 (fun q1 => ⟨by decide, m_in ⟨_, rfl, br0 (fun q2 => ⟨by decide, m_in ⟨_, rfl, br1 (fun q3 => mn hS (pk_in 1 1483 (by decide)) ?_) (fun q3 => ⟨trivial, hB fun z => q3 z.2.2⟩)⟩⟩) (fun q2 => ⟨trivial, hB fun z => q2 z.2.1⟩)⟩⟩) (fun q1 => ⟨trivial, hB fun z => q1 z.1⟩)⟩⟩
  rw [show mem 102 (Int32.toNatClampNeg 1) = nI N by rw [hf]; exact h1]
  refine ⟨fun z => ⟨m9 hS, m_comes (d := d) hS ?_ hf h1 ⟨_, rfl, trivial, hC ⟨q1, q2, q3⟩ ?_⟩⟩, fun z => ⟨trivial, hF ⟨q1, q2, q3⟩ ?_⟩⟩
  · rcases Nat.lt_or_ge N 8 with g | g
    · exact g
    · exact absurd (show nI N = 8 by rw [show N = 8 by omega]; rfl) z
  · rcases Nat.lt_or_ge N 8 with g | g
    · exact g
    · exact absurd (show nI N = 8 by rw [show N = 8 by omega]; rfl) z
  · exact (nI_eq (b := 8) (by omega) (by decide)).mp z
theorem tolF_no {i : Nat} {w : Int32} (q : ¬ (0 ≤ w ∧ w ≤ 8)) : tolF f i w = -1000000001 := by
  unfold tolF
  rw [if_neg (fun e => q (by rw [e]; decide)), if_neg (fun e => q (by rw [e]; decide)), if_neg (fun e => q (by rw [e]; decide)), if_neg (fun e => q (by rw [e]; decide)), if_neg (fun e => q (by rw [e]; decide)), if_neg (fun e => q (by rw [e]; decide)), if_neg (fun e => q (by rw [e]; decide)), if_neg (fun e => q (by rw [e]; decide)), if_neg (fun e => q (by rw [e]; decide))]
theorem m_told (hS : St sh rf nx) (hN : N ≤ 8) (hf : mem 102 = f) (h1 : f 1 = nI N) {t w : Int32} (hB : ¬ (0 ≤ t ∧ t ≤ nI N - 1) → K (some (.int (-1000000001))) sh rf mem nx) (hK : ∀ i, i < N → t = nI i → K (some (.int (tolF f i w))) sh rf mem nx) : ab_Cx l G ol (d + 4) mM_told [.ref 101, .int t, .int w] sh rf mem nx K := by
  subst hf
  refine e_mM_told ⟨m9 hS, m_isOne hS h1 ⟨_, rfl, br0 (fun q => ⟨by decide, m_in ⟨_, rfl, br1 (fun q2 => ?_) (fun q2 => ⟨trivial, ?_⟩)⟩⟩) (fun q => ⟨trivial, hB q⟩)⟩⟩
  · obtain ⟨i, hi, rfl⟩ := ix_of (by omega) q
    obtain ⟨j, hj, rfl⟩ := rg_of (M := 8) (by omega) q2
    have hk := hK i hi rfl
    have hi8 : i < 8 := by omega
    refine ⟨fun z => ⟨fun z2 => ⟨m9 hS, m_worthOf hS hi8 ⟨_, rfl, trivial, ?_⟩⟩, fun z2 => ⟨m9 hS, m_signsOf hS hi8 ⟨_, rfl, trivial, ?_⟩⟩⟩, fun z => ⟨m9 hS, m_of hS hi8 (by omega) ⟨_, rfl, trivial, ?_⟩⟩⟩
    · have : j = 8 := by
        have h7 : 7 ≤ j := (nI_leI (a := 7) (by decide) (by omega)).mp z
        have : j ≠ 7 := fun e => z2 (by rw [e]; rfl)
        omega
      subst this; exact hk
    · rw [z2] at hk; exact hk
    · have : j < 7 := by
        rcases Nat.lt_or_ge j 7 with g | g
        · exact g
        · exact absurd (nI_le (a := 7) g (by omega)) z
      rcases (show j = 0 ∨ j = 1 ∨ j = 2 ∨ j = 3 ∨ j = 4 ∨ j = 5 ∨ j = 6 by omega) with rfl | rfl | rfl | rfl | rfl | rfl | rfl <;> exact hk
  · obtain ⟨i, hi, rfl⟩ := ix_of (by omega) q
    have hk := hK i hi rfl
    rw [tolF_no q2] at hk
    exact hk
theorem m_claim (hS : St sh rf nx) (hN : N ≤ 8) (hf : mem 102 = f) (h1 : f 1 = nI N) {t w : Int32} (hB : ¬ ((0 ≤ t ∧ t ≤ nI N - 1) ∧ (0 ≤ w ∧ w ≤ 5)) → K (some (.int (-1000000001))) sh rf mem nx) (hK : ∀ i j, i < N → j < 6 → t = nI i → w = nI j → K (some (.int (f (tI i (7 + j))))) sh rf mem nx) : ab_Cx l G ol (d + 3) mM_claim [.ref 101, .int t, .int w] sh rf mem nx K := by
  subst hf
  refine e_mM_claim ⟨m9 hS, m_isOne hS h1 ⟨_, rfl, br0 (fun q => ⟨by decide, m_in ⟨_, rfl, br0 (fun q2 => ?_) (fun q2 => ⟨trivial, hB fun z => q2 z.2⟩)⟩⟩) (fun q => ⟨trivial, hB fun z => q z.1⟩)⟩⟩
  obtain ⟨i, hi, rfl⟩ := ix_of (by omega) q
  obtain ⟨j, hj, rfl⟩ := rg_of (M := 5) (by omega) q2
  rw [show (7 : Int32) + nI j = nI (7 + j) from nI_add 7 j]
  exact ⟨m9 hS, m_of hS (by omega) (by omega) ⟨_, rfl, trivial, hK i j hi (by omega) rfl rfl⟩⟩
theorem m_costs (hS : St sh rf nx) (hN : N ≤ 8) (hf : mem 102 = f) {T D : Nat} (hW : Wf N D f) (hx : TxT f T) {t w : Int32} (hB : ¬ ((0 ≤ t ∧ t ≤ nI N - 1) ∧ (0 ≤ w ∧ w ≤ 19)) → K (some (.int (-1000000001))) sh rf mem nx) (hK : ∀ i j, i < N → j < 20 → t = nI i → w = nI j → ∀ mem', FS mem mem' → K (some (.int (ctO (oF f 0 T) (f (tI i 1)) (nI j) (f 2)))) sh rf mem' nx) : ab_Cx l G ol (d + 4) mM_costs [.ref 101, .int t, .int w] sh rf mem nx K := by
  subst hf
  refine e_mM_costs ⟨m9 hS, m_isOne hS hW.1 ⟨_, rfl, br0 (fun q => ⟨by decide, m_in ⟨_, rfl, br0 (fun q2 => ?_) (fun q2 => ⟨trivial, hB fun z => q2 z.2⟩)⟩⟩) (fun q => ⟨trivial, hB fun z => q z.1⟩)⟩⟩
  obtain ⟨i, hi, rfl⟩ := ix_of (by omega) q
  obtain ⟨j, hj, rfl⟩ := rg_of (M := 19) (by omega) q2
  obtain ⟨_, ⟨n, hn, en⟩, _⟩ := hW.2.2.2.2.2 i hi
  exact ⟨m9 hS, m_costsBy (d := d) hS hx (by omega) hn en (by omega) fun mem' hF => ⟨_, rfl, trivial, hK i j hi (by omega) rfl rfl mem' ⟨fun a _ _ a3 a4 => hF a a3 a4, hF 102 (by decide) (by decide)⟩⟩⟩
theorem m_asksFor (hS : St sh rf nx) (hN : N ≤ 8) (hf : mem 102 = f) {D : Nat} (hD : D ≤ 100000) (hW : Wf N D f) {t w : Int32} (hB : ¬ ((0 ≤ t ∧ t ≤ nI N - 1) ∧ (0 ≤ w ∧ w ≤ 999)) → K (some (.int (-1000000001))) sh rf mem nx) (hK : ∀ i j, i < N → j < 1000 → t = nI i → w = nI j → K (some (.int (ask (f (tI i 0)) (f (tI i 2)) (f (tI i 6)) (f 3) (nI j)))) sh rf mem nx) : ab_Cx l G ol (d + 3) mM_asksFor [.ref 101, .int t, .int w] sh rf mem nx K := by
  subst hf
  refine e_mM_asksFor ⟨m9 hS, m_isOne hS hW.1 ⟨_, rfl, br0 (fun q => ⟨by decide, m_in ⟨_, rfl, br0 (fun q2 => ?_) (fun q2 => ⟨trivial, hB fun z => q2 z.2⟩)⟩⟩) (fun q => ⟨trivial, hB fun z => q z.1⟩)⟩⟩
  obtain ⟨i, hi, rfl⟩ := ix_of (by omega) q
  obtain ⟨j, hj, rfl⟩ := rg_of (M := 999) (by omega) q2
  obtain ⟨_, _, _, _, ⟨s, hs, es⟩⟩ := hW.2.2.2.2.2 i hi
  exact ⟨m9 hS, m_asksBy (d := d) hS (by omega) (by omega) (by omega) es ⟨_, rfl, trivial, hK i j hi (by omega) rfl rfl⟩⟩
theorem m_as (hS : St sh rf nx) (hN : N ≤ 8) (hf : mem 102 = f) (h1 : f 1 = nI N) {t w : Int32} (hB : ¬ ((0 ≤ t ∧ t ≤ nI N - 1) ∧ (0 ≤ w ∧ w ≤ 5)) → K (some (.int (-1000000001))) sh rf mem nx) (hK : ∀ i, i < N → (0 ≤ w ∧ w ≤ 5) → t = nI i → K (some (.int (if und (f (tI i 0)) w then f (tI i 1) else -1000000012))) sh rf mem nx) : ab_Cx l G ol (d + 3) mM_as [.ref 101, .int t, .int w] sh rf mem nx K := by
  subst hf
  refine e_mM_as ⟨m9 hS, m_isOne hS h1 ⟨_, rfl, br0 (fun q => ⟨by decide, m_in ⟨_, rfl, br1 (fun q2 => ?_) (fun q2 => ⟨trivial, hB fun z => q2 z.2⟩)⟩⟩) (fun q => ⟨trivial, hB fun z => q z.1⟩)⟩⟩
  obtain ⟨i, hi, rfl⟩ := ix_of (by omega) q
  have hk := hK i hi q2 rfl
  refine ⟨m9 hS, m_of hS (k := 0) (by omega) (by decide) ⟨_, rfl, by decide, m_isUnder ⟨_, rfl, br0 (fun y => ⟨m9 hS, m_of hS (k := 1) (by omega) (by decide) ⟨_, rfl, trivial, ?_⟩⟩) (fun y => ⟨trivial, ?_⟩)⟩⟩⟩
  · rw [if_pos y] at hk; exact hk
  · rw [if_neg y] at hk; exact hk
theorem m_turns (hS : St sh rf nx) (hN : N ≤ 8) (hf : mem 102 = f) (h1 : f 1 = nI N) {t w : Int32} (hB : ¬ ((0 ≤ t ∧ t ≤ nI N - 1) ∧ (0 ≤ w ∧ w ≤ 5)) → K (some (.int (-1000000001))) sh rf mem nx) (hK : ∀ i, i < N → (0 ≤ w ∧ w ≤ 5) → t = nI i → K (some (.int (f (tI i 0)))) sh rf (ab_row mem 102 (upd f (tI i 0) w)) nx) : ab_Cx l G ol (d + 3) mM_turns [.ref 101, .int t, .int w] sh rf mem nx K := by
  subst hf
  refine e_mM_turns ⟨m9 hS, m_isOne hS h1 ⟨_, rfl, br0 (fun q => ⟨by decide, m_in ⟨_, rfl, br0 (fun q2 => ?_) (fun q2 => ⟨trivial, hB fun z => q2 z.2⟩)⟩⟩) (fun q => ⟨trivial, hB fun z => q z.1⟩)⟩⟩
  obtain ⟨i, hi, rfl⟩ := ix_of (by omega) q
  have e : (7 : Int32) + (13 : Int32) * nI i = nI (tI i 0) := by
    rw [← ti_e]; exact (Int32.add_zero _).symm
  exact ⟨m9 hS, m_becomes hS e (by have := ti_lt (t := i) (k := 0) (by omega) (by decide); omega) ⟨_, rfl, trivial, hK i hi q2 rfl⟩⟩
theorem m_set (hS : St sh rf nx) (hN : N ≤ 8) (hf : mem 102 = f) (h1 : f 1 = nI N) {t w v : Int32} (hB : ¬ ((0 ≤ t ∧ t ≤ nI N - 1) ∧ (w = 1 ∨ w = 2) ∧ (0 ≤ v ∧ v ≤ 99)) → K (some (.int (-1000000001))) sh rf mem nx) (hK : ∀ i k, i < N → k = 1 ∨ k = 2 → w = nI k → (0 ≤ v ∧ v ≤ 99) → t = nI i → K (some (.int (f (tI i k)))) sh rf (ab_row mem 102 (upd f (tI i k) v)) nx) : ab_Cx l G ol (d + 3) mM_set [.ref 101, .int t, .int w, .int v] sh rf mem nx K := by
  subst hf
  have ew : (1 ≤ w ∧ w ≤ 2) ↔ (w = 1 ∨ w = 2) := by
    simp only [Int32.le_iff_toInt_le, ← Int32.toInt_inj, show (1 : Int32).toInt = 1 by decide, show (2 : Int32).toInt = 2 by decide]
    omega
  refine e_mM_set ⟨m9 hS, m_isOne hS h1 ⟨_, rfl, br0 (fun q => ⟨by decide, m_in ⟨_, rfl, br0 (fun q2 => ⟨by decide, m_in ⟨_, rfl, br0 (fun q3 => ?_) (fun q3 => ⟨trivial, hB fun z => q3 z.2.2⟩)⟩⟩) (fun q2 => ⟨trivial, hB fun z => q2 (ew.mpr z.2.1)⟩)⟩⟩) (fun q => ⟨trivial, hB fun z => q z.1⟩)⟩⟩
  obtain ⟨i, hi, rfl⟩ := ix_of (by omega) q
  obtain ⟨k, hk, rfl⟩ : ∃ k, (k = 1 ∨ k = 2) ∧ w = nI k := by
    rcases ew.mp q2 with e | e
    · exact ⟨1, Or.inl rfl, e⟩
    · exact ⟨2, Or.inr rfl, e⟩
  exact ⟨m9 hS, m_becomes hS (ti_e i k) (by have := ti_lt (t := i) (k := k) (by omega) (by omega); omega) ⟨_, rfl, trivial, hK i k hi hk rfl q3 rfl⟩⟩
theorem m_seed (hS : St sh rf nx) (hf : mem 102 = f) {v : Int32} (hK : K (some (.int (f 0))) sh rf (ab_row mem 102 (upd f 0 v)) nx) : ab_Cx l G ol (d + 2) mM_seed [.ref 101, .int v] sh rf mem nx K := by
  subst hf
  exact e_mM_seed ⟨m9 hS, m_becomes hS (j := 0) rfl (by decide) ⟨_, rfl, trivial, hK⟩⟩
set_option maxHeartbeats 4000000 in
theorem m_deal (hS : St sh rf nx) (hN : N ≤ 8) (hf : mem 102 = f) (h1 : f 1 = nI N) {n : Int32} (hB : ¬ (1 ≤ n ∧ n ≤ 8) → K (some (.int (-1000000001))) sh rf mem nx) (hK : ∀ k, 1 ≤ k → k ≤ 8 → n = nI k → K (some (.int (nI (min k (8 - N))))) sh rf (ab_row mem 102 (dlF N f (min k (8 - N)))) nx) : ab_Cx l G ol (d + 3) mM_deal [.ref 101, .int n] sh rf mem nx K := by
  refine e_mM_deal ⟨by decide, m_in ⟨_, rfl, br1 (fun q => ?_) (fun q => ⟨trivial, hB q⟩)⟩⟩
  obtain ⟨k, hk, rfl⟩ := rg_of (M := 8) (by omega) ⟨Int32.le_trans (by decide) q.1, q.2⟩
  have k1 : 1 ≤ k := (nI_leI (a := 1) (by omega) (by omega)).mp q.1
  have hk := hK k k1 hk rfl
  have c1 : Int32.toNatClampNeg (1 : Int32) = 1 := by decide
  generalize hM : min k (8 - N) = M at *
  have hM8 : N + M ≤ 8 := by omega
  have e1 : ∀ m, m ≤ M → dlF N f m 1 = nI (N + m) := by
    intro m _
    cases m with
    | zero => exact h1
    | succ m => rfl
  suffices loop : ∀ r m, m + r = M → ∀ u3 u4 u5, ab_Go l G ol (d + 2) mM_deal (ab_mc mM_deal) (ab_ms mM_deal) (fun r sh rf mem nx _ _ => K r sh rf mem nx) 15 [.ref 101, .int (nI k), .int (nI m), u3, u4, u5] [] sh rf (ab_row mem 102 (dlF N f m)) nx 0 0 by
    have := loop M 0 (by omega) (.retAddr 0) (.retAddr 0) (.retAddr 0)
    rw [show dlF N f 0 = mem 102 from hf.symm, row_id] at this
    exact this
  intro r
  induction r with
  | zero =>
    intro m hm u3 u4 u5
    have : m = M := by omega
    subst this
    refine h_mM_deal_15 ⟨fun _ => ⟨trivial, hk⟩, fun z => mn hS (pk_in 1 1483 (by decide)) ?_⟩
    rw [c1, row_at, e1 m (Nat.le_refl _)]
    refine ⟨fun _ => ⟨trivial, hk⟩, fun z2 => ?_⟩
    exfalso
    rcases Nat.lt_or_ge m k with g | g
    · exact z2 (nI_le (a := 8) (by omega) (by omega))
    · exact z (nI_le g (by omega))
  | succ r ih =>
    intro m hm u3 u4 u5
    refine h_mM_deal_15 ⟨fun z => absurd z (nI_ge (by omega) (by omega)), fun z => mn hS (pk_in 1 1483 (by decide)) ?_⟩
    rw [c1, row_at, e1 m (by omega)]
    refine ⟨fun z2 => absurd z2 (nI_ge (b := 8) (by omega) (by omega)), fun _ => ⟨m9 hS, m_draw hS ⟨_, rfl, by decide, m9 hS, m_draw hS ⟨_, rfl, by decide, m9 hS, m_draw hS ⟨_, rfl, by decide, m9 hS, ?_⟩⟩⟩⟩⟩
    simp only [row_at, row_row]
    have eu : rowD (rowD (rowD (dlF N f m))) = upd (dlF N f m) 0 (drw (drw (drw (dlF N f m 0)))) := by
      funext j; unfold rowD upd; by_cases h : j = 0 <;> simp [h]
    have d1 : rowD (dlF N f m) 0 = drw (dlF N f m 0) := pk_us
    have d2 : rowD (rowD (dlF N f m)) 0 = drw (drw (dlF N f m 0)) := by rw [rowD, pk_us, d1]
    rw [eu, d1, d2]
    refine m_comes (d := d) (N := N + m) hS (by omega) (row_at _ _ _) (by rw [pk_un (by decide)]; exact e1 m (by omega)) ⟨_, rfl, ?_⟩
    rw [row_row, nI_1]
    exact ih (m + 1) (by omega) _ _ _
theorem m_rule (hS : St sh rf nx) (hf : mem 102 = f) {w v : Int32} (hB : ¬ ((w = 0 ∧ 1 ≤ v ∧ v ≤ 999) ∨ (w = 1 ∧ 0 ≤ v ∧ v ≤ 8) ∨ (w = 2 ∧ 0 ≤ v ∧ v ≤ 1)) → K (some (.int (-1000000001))) sh rf mem nx) (h0 : w = 0 → 1 ≤ v ∧ v ≤ 999 → K (some (.int (f 3))) sh rf (ab_row mem 102 (upd f 3 v)) nx) (h1 : w = 1 → 0 ≤ v ∧ v ≤ 8 → K (some (.int (f 4))) sh rf (ab_row mem 102 (upd f 4 v)) nx) (h2 : w = 2 → 0 ≤ v ∧ v ≤ 1 → K (some (.int (f 5))) sh rf (ab_row mem 102 (upd f 5 v)) nx) : ab_Cx l G ol (d + 2) mM_rule [.ref 101, .int w, .int v] sh rf mem nx K := by
  subst hf
  refine e_mM_rule ⟨by decide, m_in ⟨_, rfl, br0 (fun q => ?_) (fun q => ⟨trivial, hB fun z => q ?_⟩)⟩⟩
  · obtain ⟨j, hj, rfl⟩ := rg_of (M := 2) (by omega) q
    rcases (show j = 0 ∨ j = 1 ∨ j = 2 by omega) with rfl | rfl | rfl
    · refine ⟨fun z => absurd rfl z, fun _ => ⟨fun z => absurd rfl z, fun _ => ⟨by decide, m_in ⟨_, rfl, br1 (fun q2 => ⟨m9 hS, m_becomes hS (j := 3) (by decide) (by decide) ⟨_, rfl, trivial, h0 rfl q2⟩⟩) (fun q2 => ⟨trivial, hB fun z => ?_⟩)⟩⟩⟩⟩
      rcases z with z | z | z
      · exact q2 z.2
      · exact absurd z.1 (by decide)
      · exact absurd z.1 (by decide)
    · refine ⟨fun z => ⟨fun _ => ⟨fun z2 => absurd rfl z2, fun _ => ⟨by decide, m_in ⟨_, rfl, br1 (fun q2 => ⟨m9 hS, m_becomes hS (j := 4) (by decide) (by decide) ⟨_, rfl, trivial, h1 rfl q2⟩⟩) (fun q2 => ⟨trivial, hB fun z => ?_⟩)⟩⟩⟩, fun z2 => absurd z2 z⟩, fun z => absurd z (by decide)⟩
      rcases z with z | z | z
      · exact absurd z.1 (by decide)
      · exact q2 z.2
      · exact absurd z.1 (by decide)
    · refine ⟨fun z => ⟨fun _ => ⟨fun z2 => ⟨by decide, m_in ⟨_, rfl, br1 (fun q2 => ⟨m9 hS, m_becomes hS (j := 5) (by decide) (by decide) ⟨_, rfl, trivial, h2 rfl q2⟩⟩) (fun q2 => ⟨trivial, hB fun z => ?_⟩)⟩⟩, fun z2 => absurd z2 (by decide)⟩, fun z2 => absurd z2 z⟩, fun z => absurd z (by decide)⟩
      rcases z with z | z | z
      · exact absurd z.1 (by decide)
      · exact absurd z.1 (by decide)
      · exact q2 z.2
  · rcases z with z | z | z <;> rw [z.1] <;> decide
theorem m_days (hS : St sh rf nx) (hN : N ≤ 8) (hf : mem 102 = f) {T D : Nat} (hW : Wf N D f) (hD : D ≤ 9999) (hx : TxT f T) (hh : mem 101 4 = homV 8) {n : Int32} (hB : ¬ (1 ≤ n ∧ n ≤ 100) → K (some (.int (-1000000001))) sh rf mem nx) (hK : ∀ k, 1 ≤ k → k ≤ 100 → n = nI k → ∀ mem', FE mem mem' → mem' 102 = (pasF (ctO (oF f 0 T)) 8 N f (min k (9999 - D))).1 → K (some (.int (pasF (ctO (oF f 0 T)) 8 N f (min k (9999 - D))).2)) sh rf mem' nx) : ab_Cx l G ol (d + 7) mM_days [.ref 101, .int n] sh rf mem nx K := by
  refine e_mM_days ⟨by decide, m_in ⟨_, rfl, br0 (fun q => mn hS (pk_in 2 1483 (by decide)) ⟨by decide, m_within ⟨_, rfl, m9 hS, ?_⟩⟩) (fun q => ⟨trivial, hB q⟩)⟩⟩
  obtain ⟨k, hk, rfl⟩ := rg_of (M := 100) (by omega) ⟨Int32.le_trans (by decide) q.1, q.2⟩
  have k1 : 1 ≤ k := (nI_leI (a := 1) (by omega) (by omega)).mp q.1
  have e : wiI ((9999 : Int32) - mem 102 (Int32.toNatClampNeg 2)) 0 (nI k) = nI (min k (9999 - D)) := by
    rw [show mem 102 (Int32.toNatClampNeg 2) = nI D by rw [hf]; exact hW.2.2.2.2.1, show (9999 : Int32) = nI 9999 from rfl, pk_sub hD]
    unfold wiI
    rw [if_pos (nI_pos' (by omega))]
    by_cases z : 9999 - D ≤ k
    · rw [if_pos (nI_le z (by omega))]; congr 1; omega
    · rw [if_neg (nI_ge (by omega) (by omega))]; congr 1; omega
  rw [e]
  exact m_goesOn (d := d) (home := 8) (T := T) (D := D) (f := f) hS hN (by omega) hW hx hh hf fun mem' F e' => ⟨_, rfl, trivial, hK k k1 hk rfl mem' (FE.of F) e'⟩
theorem exB8 {i : Nat} (hi : i < 8) : exB 8 noB i = noB i := by
  unfold exB noB
  cases h : Nat.beq i 8 with
  | false => rfl
  | true => have := Nat.eq_of_beq_eq_true h; omega
theorem bst_congr {sgn : Row} {e1 e2 : Nat → Bool} : ∀ n, (∀ i, i < n → e1 i = e2 i) → bst sgn e1 n = bst sgn e2 n
  | 0, _ => rfl
  | n + 1, h => by unfold bst; rw [h n (by omega), bst_congr n (fun i hi => h i (by omega))]
theorem m_coins (hS : St sh rf nx) (hN : N ≤ 8) (hf : mem 102 = f) (h1 : f 1 = nI N) (hh : mem 101 4 = homV 8) {w : Int32} (hK : ∀ mem', FS mem mem' → K (some (.int (conF f N w))) sh rf mem' nx) : ab_Cx l G ol (d + 5) mM_coins [.ref 101, .int w] sh rf mem nx K := by
  subst hf
  have hk := hK mem FS.rfl
  unfold conF at hk
  refine e_mM_coins ⟨fun q => ⟨m9 hS, m_sumOf hS (k := 3) hN (by decide) h1 ⟨_, rfl, trivial, ?_⟩⟩, fun q0 => ⟨fun q => ⟨m9 hS, m_sumOf hS (k := 4) hN (by decide) h1 ⟨_, rfl, trivial, ?_⟩⟩, fun q1 => ⟨fun q => ⟨m9 hS, m_pad hS hN h1 ⟨_, rfl, trivial, ?_⟩⟩, fun q2 => ⟨fun q => ⟨m9 hS, m_sumOf hS (k := 5) hN (by decide) h1 ⟨_, rfl, trivial, ?_⟩⟩, fun q3 => ⟨fun q => ?_, fun q4 => ⟨trivial, ?_⟩⟩⟩⟩⟩⟩
  · rw [if_pos q] at hk; exact hk
  · rw [if_neg q0, if_pos q] at hk; exact hk
  · rw [if_neg q0, if_neg q1, if_pos q] at hk; exact hk
  · rw [if_neg q0, if_neg q1, if_neg q2, if_pos q] at hk; exact hk
  · suffices loop : ∀ r i, i + r = 8 → ∀ mem', FS mem mem' → mem' 101 = mem 101 → (∀ j, j < i → mem' 106 j = 0) → ab_Go l G ol (d + 4) mM_coins (ab_mc mM_coins) (ab_ms mM_coins) (fun r sh rf mem nx _ _ => K r sh rf mem nx) 61 [.ref 101, .int w, .int (nI i)] [] sh rf mem' nx 0 0 from loop 8 0 rfl mem FS.rfl rfl (fun j z => by omega)
    intro r
    induction r with
    | zero =>
      intro i hi mem' F e101 h6
      have : i = 8 := by omega
      subst this
      refine h_mM_coins_61 ⟨fun _ => ⟨m9 hS, m_mostSigns (N := N) (d := d) (home := 8) (se := noB) hS hN (by rw [F.2]; exact h1) (by rw [e101]; exact hh) (fun j hj => by rw [h6 j (by omega)]; rfl) ⟨_, rfl, by decide, m_told0 ⟨_, rfl, trivial, ?_⟩⟩⟩, fun z => absurd (by decide) z⟩
      have hk := hK mem' F
      unfold conF at hk
      rw [if_neg q0, if_neg q1, if_neg q2, if_neg q3, if_pos q] at hk
      rw [F.2, bst_congr N (fun i hi => exB8 (by omega))]
      cases hb : bst (sgf (mem 102)) noB N with
      | none =>
        have n0 : N = 0 := by
          rcases Nat.eq_zero_or_pos N with g | g
          · exact g
          · exfalso
            obtain ⟨m, rfl⟩ : ∃ m, N = m + 1 := ⟨N - 1, by omega⟩
            unfold bst at hb
            rw [if_neg (show ¬ noB m = true from fun z => by cases z)] at hb
            cases hc : bst (sgf (mem 102)) noB m with
            | none => rw [hc] at hb; cases hb
            | some b => rw [hc] at hb; simp only at hb; split at hb <;> cases hb
        rw [if_pos n0] at hk
        exact hk
      | some b =>
        have hbN := bst_lt hb
        rw [if_neg (by omega), hb] at hk
        have : (0 : Int32) ≤ bI (some b) := nI_pos' (by omega)
        rw [if_pos this]; exact hk
    | succ r ih =>
      intro i hi mem' F e101 h6
      refine h_mM_coins_61 ⟨fun z => absurd z (nI_ge (b := 8) (by omega) (by decide)), fun _ => ⟨m9 hS, ma hS rfl rfl rfl (vp_in_nI (by omega) (by decide)) ?_⟩⟩
      rw [nar0, nI_1, cl_nI (by omega)]
      refine ih (i + 1) (by omega) _ ⟨fun a a1 a2 a3 a4 => ?_, ?_⟩ ?_ (fun j hj => ?_)
      · rw [ab_w_ne _ _ _ (by omega)]; exact F.1 a a1 a2 a3 a4
      · rw [ab_w_ne _ _ _ (by decide)]; exact F.2
      · rw [ab_w_ne _ _ _ (by decide)]; exact e101
      · by_cases z : j = i
        · subst z; exact w_eq _ _ _ _
        · rw [w_ne _ _ (Or.inr z)]; exact h6 j (by omega)
  · rw [if_neg q0, if_neg q1, if_neg q2, if_neg q3, if_neg q4] at hk; exact hk
theorem m_fee (hS : St sh rf nx) (hN : N ≤ 8) (hf : mem 102 = f) (h1 : f 1 = nI N) {T : Nat} (hx : TxT f T) (hK : ∀ mem', FS mem mem' → K (some (.int (lwV (oF f 1 T) (padF f N) (f 4) 0 (padF f N)))) sh rf mem' nx) : ab_Cx l G ol (d + 4) mM_fee [.ref 101] sh rf mem nx K := by
  subst hf
  have i116 : ab_is sh nx 116 10 := is_of hS rfl rfl
  have v116 : ∀ {i : Int32}, vp_in i 4 → vp_in i (sh 116).2 := fun q => in_of hS rfl rfl q
  have c0 : Int32.toNatClampNeg (0 : Int32) = 0 := by decide
  have c1 : Int32.toNatClampNeg (1 : Int32) = 1 := by decide
  have c4 : Int32.toNatClampNeg (4 : Int32) = 4 := by decide
  refine e_mM_fee ⟨m9 hS, m_counts hS (k := 1) hx.2.1 hx.1 ⟨_, rfl, m9 hS, rd_of hS rfl rfl ⟨m9 hS, m_pad hS hN h1 ⟨_, rfl, i116, v116 (pk_in 0 4 (by decide)), m9 hS, rd_of hS rfl rfl (mn hS (pk_in 4 1483 (by decide)) ⟨i116, v116 (pk_in 1 4 (by decide)), ?_⟩)⟩⟩⟩⟩
  rw [c0, c1, c4, ab_w_ne (b := 102) _ _ _ (by decide)]
  generalize hm : ab_w (ab_w mem 116 0 (padF (mem 102) N)) 116 1 (mem 102 4) = mem7
  have o : ∀ q, q ≠ 116 → mem7 q = mem q := fun q hq => by rw [← hm, ab_w_ne _ _ _ hq, ab_w_ne _ _ _ hq]
  have f0 : mem7 116 0 = padF (mem 102) N := by rw [← hm, w_ne _ _ (Or.inr (by decide)), w_eq]
  have f1 : mem7 116 1 = mem 102 4 := by rw [← hm, w_eq]
  have o2 := o 102 (by decide)
  cases hl : lastK (mem 102) 1 T with
  | none =>
    refine ⟨fun q => absurd q (by decide), fun _ => ⟨m9 hS, m_pad hS hN (by rw [o2]; exact h1) ⟨_, rfl, trivial, ?_⟩⟩⟩
    have := hK mem7 ⟨fun a _ _ _ a4 => o a a4, o2⟩
    rw [oF_none hl] at this
    rw [o2]; exact this
  | some u =>
    refine ⟨fun _ => ⟨m9 hS, ?_⟩, fun q => absurd (nI_pos' (by have := (lastK_lt hl).1; have := hx.2.1; omega)) q⟩
    refine m_works (d := d + 1) (mem := mem7) (T := T) (k := 1) (c := 0) hS (by rw [o2]; exact hx) (by rw [o2]; exact hl) (by decide) f0 f1 (fun z => absurd z (by decide)) fun mem' hF => ⟨_, rfl, trivial, ?_⟩
    have := hK mem' ⟨fun a _ _ a3 a4 => (hF a a3).trans (o a a4), (hF 102 (by decide)).trans o2⟩
    rw [o2, oF_some hl] at *
    exact this
theorem m_fine (hS : St sh rf nx) (hN : N ≤ 8) (hf : mem 102 = f) (h1 : f 1 = nI N) {T : Nat} (hx : TxT f T) {t : Int32} (hB : ¬ (0 ≤ t ∧ t ≤ nI N - 1) → K (some (.int (-1000000001))) sh rf mem nx) (hK : ∀ i, i < N → t = nI i → ∀ mem', FS mem mem' → K (some (.int (lwV (oF f 2 T) (sgf f i) (f (tI i 5)) 0 (sgf f i)))) sh rf mem' nx) : ab_Cx l G ol (d + 4) mM_fine [.ref 101, .int t] sh rf mem nx K := by
  subst hf
  have i116 : ab_is sh nx 116 10 := is_of hS rfl rfl
  have v116 : ∀ {i : Int32}, vp_in i 4 → vp_in i (sh 116).2 := fun q => in_of hS rfl rfl q
  have c0 : Int32.toNatClampNeg (0 : Int32) = 0 := by decide
  have c1 : Int32.toNatClampNeg (1 : Int32) = 1 := by decide
  refine e_mM_fine ⟨m9 hS, m_isOne hS h1 ⟨_, rfl, br1 (fun q => ?_) (fun q => ⟨trivial, hB q⟩)⟩⟩
  obtain ⟨i, hi, rfl⟩ := ix_of (by omega) q
  have hi8 : i < 8 := by omega
  refine ⟨m9 hS, m_counts hS (k := 2) hx.2.1 hx.1 ⟨_, rfl, m9 hS, rd_of hS rfl rfl ⟨m9 hS, m_signsOf hS hi8 ⟨_, rfl, i116, v116 (pk_in 0 4 (by decide)), m9 hS, rd_of hS rfl rfl ⟨m9 hS, m_of hS (k := 5) hi8 (by decide) ⟨_, rfl, i116, v116 (pk_in 1 4 (by decide)), ?_⟩⟩⟩⟩⟩⟩
  rw [c0, c1, ab_w_ne (b := 102) _ _ _ (by decide)]
  generalize hm : ab_w (ab_w mem 116 0 (sgf (mem 102) i)) 116 1 (mem 102 (tI i 5)) = mem7
  have o : ∀ q, q ≠ 116 → mem7 q = mem q := fun q hq => by rw [← hm, ab_w_ne _ _ _ hq, ab_w_ne _ _ _ hq]
  have f0 : mem7 116 0 = sgf (mem 102) i := by rw [← hm, w_ne _ _ (Or.inr (by decide)), w_eq]
  have f1 : mem7 116 1 = mem 102 (tI i 5) := by rw [← hm, w_eq]
  have o2 := o 102 (by decide)
  cases hl : lastK (mem 102) 2 T with
  | none =>
    refine ⟨fun q => absurd q (by decide), fun _ => ⟨m9 hS, m_signsOf hS hi8 ⟨_, rfl, trivial, ?_⟩⟩⟩
    have := hK i hi rfl mem7 ⟨fun a _ _ _ a4 => o a a4, o2⟩
    rw [oF_none hl] at this
    rw [o2]; exact this
  | some u =>
    refine ⟨fun _ => ⟨m9 hS, ?_⟩, fun q => absurd (nI_pos' (by have := (lastK_lt hl).1; have := hx.2.1; omega)) q⟩
    refine m_works (d := d + 1) (mem := mem7) (T := T) (k := 2) (c := 0) hS (by rw [o2]; exact hx) (by rw [o2]; exact hl) (by decide) f0 f1 (fun z => absurd z (by decide)) fun mem' hF => ⟨_, rfl, trivial, ?_⟩
    have := hK i hi rfl mem' ⟨fun a _ _ a3 a4 => (hF a a3).trans (o a a4), (hF 102 (by decide)).trans o2⟩
    rw [o2, oF_some hl] at *
    exact this
end ME
