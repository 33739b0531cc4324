/-! BOTH: lay, check; THE REFERENCE: sheet, mark, copy -/
section XY
variable {l : Launch} {G : ab_G} {ol : ab_Ol} {d : Nat} {sh : ab_S} {rf : ab_R} {mem : ab_N} {nx : Nat} {K : ab_K} {N : Nat} {f : Row}
theorem x_lay (hS : St sh rf nx) (hN : N ≤ 8) (hR : RW mem 4 N f) {s w k : Int32} (hB : ¬ ((0 ≤ s ∧ s ≤ 4) ∧ (0 ≤ w ∧ w ≤ 3) ∧ (w = 1 → 0 ≤ k ∧ k ≤ nI N - 1) ∧ (w = 2 → 0 ≤ k ∧ k ≤ 3)) → K (some (.int (-1000000001))) sh rf mem nx)
    (hZ : ∀ i j, i < 5 → j < 4 → s = nI i → w = 2 → k = nI j → mem (shC j) 0 = -1 → K (some (.int (-1000000011))) sh rf mem nx)
    (h0 : ∀ i, i < 5 → s = nI i → w = 0 → K (some (.int (mem (slC i) 0))) sh rf (ab_w mem (slC i) 0 0) nx)
    (h1 : ∀ i j, i < 5 → j < N → s = nI i → w = 1 → k = nI j → K (some (.int (mem (slC i) 0))) sh rf (becT (ab_w mem (slC i) 0 1) (slC i + 1) (4 + 3 + 2 * j)) nx)
    (h2 : ∀ i j, i < 5 → j < 4 → s = nI i → w = 2 → k = nI j → ¬ mem (shC j) 0 = -1 → K (some (.int (mem (slC i) 0))) sh rf (rbec (ab_w mem (slC i) 0 2) (slC i + 3) (shC j)) nx)
    (h3 : ∀ i, i < 5 → s = nI i → w = 3 → K (some (.int (mem (slC i) 0))) sh rf (ab_w (ab_w mem (slC i) 0 3) (slC i) 1 k) nx) : ab_Cx l G ol (d + 3) mX_lay [.ref 0, .int s, .int w, .int k] sh rf mem nx K := by
  have i0 : ab_is sh nx 0 8 := is_of hS rfl rfl
  have i4 : ab_is sh nx 4 7 := is_of hS rfl rfl
  refine e_mX_lay ⟨by decide, s_isSlot ⟨_, rfl, br0 (fun q => ⟨by decide, s_within ⟨_, rfl, br1 (fun q2 => ?_) (fun q2 => ⟨trivial, hB fun z => q2 z.2.1⟩)⟩⟩) (fun q => ⟨trivial, hB fun z => q z.1⟩)⟩⟩
  obtain ⟨i, hi, rfl⟩ := rg_of (M := 4) (by omega) q
  have hi5 : i < 5 := by omega
  have is := sl_is hS hi5
  obtain ⟨b, hb, rfl⟩ := rg_of (M := 3) (by omega) q2
  rcases (show b = 0 ∨ b = 1 ∨ b = 2 ∨ b = 3 by omega) with rfl | rfl | rfl | rfl
  · exact ⟨fun _ => ⟨fun _ => ⟨fun _ => ⟨i0, sl_acc hS hi5 ⟨is, is, fun _ => ⟨fun _ => ⟨fun _ => ⟨trivial, h0 i hi5 rfl rfl⟩, fun z => absurd z (by decide)⟩, fun z => absurd z (by decide)⟩, fun z => absurd z (by decide)⟩⟩, fun z => absurd z (by decide)⟩, fun z => absurd z (by decide)⟩, fun z => absurd z (by decide)⟩
  · refine ⟨fun z => absurd rfl z, fun _ => ⟨i0, s_isT (d := d) hS hR ⟨_, rfl, br1 (fun y => ⟨fun _ => ⟨fun _ => ?_, fun z => absurd z (by decide)⟩, fun z => absurd z (by decide)⟩) (fun y => ⟨trivial, hB fun z => y (z.2.2.1 rfl)⟩)⟩⟩⟩
    obtain ⟨j, hj, rfl⟩ := ix_of (by omega) y
    have hj8 : j < 8 := by omega
    refine ⟨i0, sl_acc hS hi5 ⟨is, is, fun z => absurd rfl z, fun _ => ⟨is, sl_rd2 hS hi5 ⟨i0, rd_of hS rfl rfl ⟨i4, wd_acc hS w4 hj8 ⟨td_is hS (sl_td hi5), s_tbecome (d := d + 1) hS (sl_td hi5) (wd_td w4 hj8) (by unfold slC; omega) ⟨rfl, trivial, h1 i j hi5 hj rfl rfl rfl⟩⟩⟩⟩⟩⟩⟩
  · refine ⟨fun _ => ⟨fun z => absurd rfl z, fun _ => ⟨by decide, s_isSheet ⟨_, rfl, br1 (fun y => ⟨fun z => absurd rfl z, fun _ => ?_⟩) (fun y => ⟨trivial, hB fun z => y (z.2.2.2 rfl)⟩)⟩⟩⟩, fun z => absurd z (by decide)⟩
    obtain ⟨j, hj, rfl⟩ := rg_of (M := 3) (by omega) y
    have hj4 : j < 4 := by omega
    have hr := sh_rd hj4
    refine ⟨i0, sh_acc hS hj4 ⟨rd_is hS hr, fun z => ⟨i0, sl_acc hS hi5 ⟨is, is, fun _ => ⟨fun z => absurd rfl z, fun _ => ⟨is, sl_rd3 hS hi5 ⟨i0, sh_acc hS hj4 ⟨rd_is hS (sl_rd hi5), s_rbecome (d := d + 1) hS (sl_rd hi5) hr (by unfold slC shC; omega) ⟨rfl, trivial, h2 i j hi5 hj4 rfl rfl rfl z⟩⟩⟩⟩⟩, fun z => absurd z (by decide)⟩⟩, fun z => ⟨trivial, hZ i j hi5 hj4 rfl rfl rfl z⟩⟩⟩
  · exact ⟨fun _ => ⟨fun _ => ⟨fun _ => ⟨i0, sl_acc hS hi5 ⟨is, is, fun _ => ⟨fun _ => ⟨fun z => absurd rfl z, fun _ => ⟨is, trivial, h3 i hi5 rfl rfl⟩⟩, fun z => absurd z (by decide)⟩, fun z => absurd z (by decide)⟩⟩, fun z => absurd z (by decide)⟩, fun z => absurd z (by decide)⟩, fun z => absurd z (by decide)⟩
set_option maxHeartbeats 4000000 in
theorem x_check (hS : St sh rf nx) {N' D' W : Nat} {g : Row} {o : Option (Row × Nat)} (hW6 : W ≤ 60) (eW : mem 0 12 = nI W) (hk : mem 0 5 = 0 ∨ (mem 0 5 = 1 ∧ N' ≤ 8 ∧ RW mem 23 N' g ∧ Wf N' D' g ∧ D' ≤ 9999 ∧ LW sh rf nx mem (mem 25 0) o)) {n : Int32} (hB : ¬ (1 ≤ n ∧ n ≤ 30) → K (some (.int (-1000000001))) sh rf (ab_w mem 0 12 0) nx) (hZ : (1 ≤ n ∧ n ≤ 30) → mem 0 5 = 0 → K (some (.int (-1000000002))) sh rf (ab_w mem 0 12 0) nx)
    (hK : ∀ k, 1 ≤ k → k ≤ 30 → n = nI k → mem 0 5 = 1 → ∀ mem', FrT (ab_w mem 0 12 0) mem' → K (some (.int (ckG (ctO o) N' g (mem 67) W 0 (min k (9999 - D'))))) sh rf mem' nx) : ab_Cx l G ol (d + 6) mX_check [.ref 0, .int n] sh rf mem nx K := by
  have i0 : ab_is sh nx 0 8 := is_of hS rfl rfl
  have i23 : ab_is sh nx 23 7 := is_of hS rfl rfl
  have i42 : ab_is sh nx 42 7 := is_of hS rfl rfl
  refine e_mX_check ⟨i0, i0, by decide, s_within ⟨_, rfl, br1 (fun q => ⟨i0, ?_⟩) (fun q => ⟨trivial, hB q⟩)⟩⟩
  rw [w_ne _ _ (Or.inr (by decide))]
  refine ⟨fun z => ?_, fun z => ⟨trivial, hZ q z⟩⟩
  rcases hk with k0 | ⟨k1, hN, hR, hW, hD, hT⟩
  · exact absurd k0 z
  have o1 : ∀ a, a ≠ 0 → ab_w mem 0 12 0 a = mem a := fun a ha => ab_w_ne _ _ _ ha
  have hR1 : RW (ab_w mem 0 12 0) 23 N' g := hR.own (fun k => by rw [o1 _ (by decide)]) (fun i k hi hk => by rw [o1 _ (by omega)]) (fun i k hi hk => by rw [o1 _ (by omega)])
  obtain ⟨k, hk, rfl⟩ := rg_of (M := 30) (by omega) ⟨Int32.le_trans (by decide) q.1, q.2⟩
  have kk1 : 1 ≤ k := (nI_leI (a := 1) (by omega) (by omega)).mp q.1
  have hkk := hK k kk1 hk rfl k1
  have e67 : ab_w mem 0 12 0 67 = mem 67 := o1 67 (by decide)
  have hT1 : LW sh rf nx (ab_w mem 0 12 0) (mem 25 0) o := hT.mono fun a ha => o1 a (by omega)
  have e25 : ab_w mem 0 12 0 25 = mem 25 := o1 25 (by decide)
  rw [eW]
  generalize ab_w mem 0 12 0 = mem1 at *
  refine ⟨i0, rd_of hS rfl rfl ⟨i0, rd_of hS rfl rfl ⟨i42, s_wbecome (d := d + 3) hS w42 w23 (by decide) hN hR1 fun mem2 hF hR2 hc ha => ⟨rfl, i0, rd_of hS rfl rfl ⟨i23, by decide, ?_⟩⟩⟩⟩⟩
  have F2 : FrT mem1 mem2 := FrT.bec hF
  have A2 : mem2 42 10 = absV 8 := ha.trans (by decide)
  have T2 : LW sh rf nx mem2 (mem2 44 0) o := by
    have := hc 0 (by decide)
    rw [show (42 + 2 : Nat) = 44 from rfl, show (23 + 2 : Nat) = 25 from rfl] at this
    rw [this, e25]
    exact hT1.mono fun a ha => hF a (by omega)
  have e6 : mem2 23 6 = nI D' := by rw [hF 23 (by omega), hR1.1.2.2.2.1]; exact hW.2.2.2.2.1
  rw [e6]
  refine s_min ⟨_, rfl, ?_⟩
  have e : (if (9999 : Int32) - nI D' < nI k then (9999 : Int32) - nI D' else nI k) = nI (min k (9999 - D')) := by
    rw [show (9999 : Int32) = nI 9999 from rfl, pk_sub hD]
    by_cases z : nI (9999 - D') < nI k
    · rw [if_pos z]
      have := (nI_ltI (by omega) (by omega)).mp z
      congr 1; omega
    · rw [if_neg z]
      have : k ≤ 9999 - D' := by
        rcases Nat.lt_or_ge (9999 - D') k with g | g
        · exact absurd (nI_lt g (by omega)) z
        · exact g
      congr 1; omega
  rw [e]
  generalize hM : min k (9999 - D') = M at *
  have M30 : M ≤ 30 := by omega
  suffices loop : ∀ r i, i + r = M → ckG (ctO o) N' g (mem 67) W i r = ckG (ctO o) N' g (mem 67) W 0 M → ∀ mem', FrT mem1 mem' → RW mem' 42 N' (pasF (ctO o) 8 N' g i).1 → mem' 42 10 = absV 8 → LW sh rf nx mem' (mem' 44 0) o → ab_Go l G ol (d + 5) mX_check (ab_mc mX_check) (ab_ms mX_check) (fun r sh rf mem nx _ _ => K r sh rf mem nx) 67 [.ref 0, .int (nI k), .int (nI W), .int (nI (2 * i)), .int (nI M), .int (nI i)] [] sh rf mem' nx 0 0 from loop M 0 (by omega) rfl mem2 F2 (by rw [pasF_0]; exact hR2) A2 T2
  intro r
  induction r with
  | zero =>
    intro i hi ec mem' F R A T
    have : i = M := by omega
    subst this
    have hf := hkk mem' F
    rw [← ec, ckG] at hf
    refine h_mX_check_67 ⟨fun _ => ⟨fun y => ⟨trivial, ?_⟩, fun y => ⟨trivial, ?_⟩⟩, fun y => absurd (Int32.le_refl _) y⟩
    · rw [if_neg (fun e => y (by rw [e]))] at hf
      rw [show (1 : Int32) = nI 1 from rfl, nI_add]; exact hf
    · rw [if_pos ((nI_eq (by omega) (by omega)).mp y)] at hf; exact hf
  | succ r ih =>
    intro i hi ec mem' F R A T
    have es : ckG (ctO o) N' g (mem 67) W i (r + 1) = if W ≤ 2 * i ∨ ¬ mem 67 (2 * i) = smF (pasF (ctO o) 8 N' g (i + 1)).1 4 N' then nI (1 + 2 * i) else if W ≤ 2 * i + 1 ∨ ¬ mem 67 (2 * i + 1) = padF (pasF (ctO o) 8 N' g (i + 1)).1 N' then nI (1 + (2 * i + 1)) else ckG (ctO o) N' g (mem 67) W (i + 1) r := by rw [ckG]
    have p1 : nI (2 * i) + 1 = nI (2 * i + 1) := nI_1 _
    have p2 : nI (2 * i + 1) + 1 = nI (2 * (i + 1)) := by rw [nI_1]; congr 1
    have p3 : (1 : Int32) + nI (2 * i) = nI (1 + 2 * i) := nI_add 1 _
    have p4 : (1 : Int32) + nI (2 * i + 1) = nI (1 + (2 * i + 1)) := nI_add 1 _
    refine h_mX_check_67 ?_
    unfold v_mX_check_67
    rw [p1, p2, p3, p4, nI_1]
    refine ⟨fun y => absurd y (nI_ge (by omega) (by omega)), fun _ => ⟨i0, rd_of hS rfl rfl ⟨i42, ?_⟩⟩⟩
    refine s_go (d := d) (o := o) (n := 1) (D := D' + i) hS w42 hN T R A (hW.pass (ctO_rg o) i (by omega)).1 (by omega) fun mem3 F3 R3 => ⟨_, rfl, ?_⟩
    rw [pas_1] at R3
    have A3 : mem3 42 10 = absV 8 := by rw [F3.2.2]; exact A
    have T3 : LW sh rf nx mem3 (mem3 44 0) o := by
      rw [show mem3 44 = mem' 44 from F3.2.1]
      exact T.mono fun a ha => F3.1 a (by omega) (by omega)
    have F13 := F.trans (FrT.of F3)
    have e67' : mem3 67 = mem 67 := (F13 67 (by decide) (by omega)).trans e67
    have hf := hkk mem3 F13
    rw [← ec, es] at hf
    refine ⟨fun y => ⟨trivial, ?_⟩, fun y => ?_⟩
    · rw [if_pos (Or.inl ((nI_leI (by omega) (by omega)).mp y))] at hf; exact hf
    · have hlt : 2 * i < W := by
        rcases Nat.lt_or_ge (2 * i) W with g | g
        · exact g
        · exact absurd (nI_le g (by omega)) y
      refine ⟨i0, rd_of hS rfl rfl ⟨is_of hS rfl rfl, in_of hS rfl rfl (vp_in_nI (by omega : 2 * i < 60) (by decide)), i0, rd_of hS rfl rfl ⟨i42, s_claimedOfAll hS w42 hN R3 ⟨_, rfl, ?_⟩⟩⟩⟩
      rw [cl_nI (by omega), e67']
      refine ⟨fun y2 => ⟨fun y3 => ⟨trivial, ?_⟩, fun y3 => ?_⟩, fun y2 => ⟨trivial, ?_⟩⟩
      · rw [if_neg (fun c => c.elim (fun c => by omega) (fun c => c y2)), if_pos (Or.inl ((nI_leI (by omega) (by omega)).mp y3))] at hf; exact hf
      · have hlt2 : 2 * i + 1 < W := by
          rcases Nat.lt_or_ge (2 * i + 1) W with g | g
          · exact g
          · exact absurd (nI_le g (by omega)) y3
        refine ⟨i0, rd_of hS rfl rfl ⟨is_of hS rfl rfl, in_of hS rfl rfl (vp_in_nI (by omega : 2 * i + 1 < 60) (by decide)), i0, rd_of hS rfl rfl ⟨i42, s_pad hS w42 hN R3 ⟨_, rfl, ?_⟩⟩⟩⟩
        rw [cl_nI (by omega), e67']
        refine ⟨fun y4 => ?_, fun y4 => ⟨trivial, ?_⟩⟩
        · refine ih (i + 1) (by omega) ?_ mem3 F13 R3 A3 T3
          rw [← ec, es, if_neg (fun c => c.elim (fun c => by omega) (fun c => c y2)), if_neg (fun c => c.elim (fun c => by omega) (fun c => c y4))]
        · rw [if_neg (fun c => c.elim (fun c => by omega) (fun c => c y2)), if_pos (Or.inr y4)] at hf; exact hf
      · rw [if_pos (Or.inr y2)] at hf; exact hf
/-- the reference: sheets -/
theorem m_sheet (hS : St sh rf nx) {s so n : Int32} (hB : ¬ ((0 ≤ s ∧ s ≤ 3) ∧ (-1 ≤ so ∧ so ≤ 1) ∧ (¬ so = -1 → n ≤ 24)) → K (some (.int (-1000000001))) sh rf mem nx) (hZ : (0 ≤ s ∧ s ≤ 3) ∧ (-1 ≤ so ∧ so ≤ 1) ∧ (¬ so = -1 → n ≤ 24) → ¬ so = -1 → n < 0 → K (some (.int (-1000000014))) sh rf mem nx)
    (hK : ∀ i v, i < 4 → s = nI i → (-1 ≤ so ∧ so ≤ 1) → ((so = -1 ∧ v = 0) ∨ (¬ so = -1 ∧ ∃ k, k ≤ 24 ∧ n = nI k ∧ v = n)) → ∀ mem' : ab_N, (∀ a, a ≠ 117 → a ≠ 118 → a ≠ 119 → mem' a = mem a) → mem' 117 = upd (mem 117) i so → mem' 118 = upd (mem 118) i v → (∀ k, mem' 119 k = if 24 * i ≤ k ∧ k < 24 * i + 24 then 0 else mem 119 k) → K (some (.int v)) sh rf mem' nx) : ab_Cx l G ol (d + 3) mM_sheet [.ref 101, .int s, .int so, .int n] sh rf mem nx K := by
  have sneg : -1 ≤ so → (so < 0 ↔ so = -1) := by
    intro h
    simp only [Int32.le_iff_toInt_le, Int32.lt_iff_toInt_lt, ← Int32.toInt_inj, show (-1 : Int32).toInt = -1 by decide, show (0 : Int32).toInt = 0 by decide] at *
    omega
  refine e_mM_sheet ⟨by decide, m_isSheet ⟨_, rfl, br0 (fun q => ⟨by decide, m_in ⟨_, rfl, br0 (fun q2 => ?_) (fun q2 => ⟨trivial, hB fun z => q2 z.2.1⟩)⟩⟩) (fun q => ⟨trivial, hB fun z => q z.1⟩)⟩⟩
  have hs1 := sneg q2.1
  obtain ⟨i, hi, rfl⟩ := rg_of (M := 3) (by omega) q
  have hi4 : i < 4 := by omega
  have ci : Int32.toNatClampNeg (nI i) = i := cl_nI (by omega)
  have v4 : vp_in (nI i) 4 := vp_in_nI hi4 (by decide)
  have i118 : ab_is sh nx 118 10 := is_of hS rfl rfl
  have v118 : vp_in (nI i) (sh 118).2 := in_of hS rfl rfl v4
  have key : ∀ v, ((so = -1 ∧ v = 0) ∨ (¬ so = -1 ∧ ∃ k, k ≤ 24 ∧ n = nI k ∧ v = n)) → ab_Go l G ol (d + 2) mM_sheet (ab_mc mM_sheet) (ab_ms mM_sheet) (fun r sh rf mem nx _ _ => K r sh rf mem nx) 66 [.ref 101, .int (nI i), .int so, .int n, .int 0] [] sh rf (ab_w (ab_w mem 117 i so) 118 i v) nx 0 0 := by
    intro v hv
    have hk := hK i v hi4 rfl q2 hv
    suffices loop : ∀ r k, k + r = 24 → ∀ mem' : ab_N, (∀ a, a ≠ 119 → mem' a = (ab_w (ab_w mem 117 i so) 118 i v) a) → (∀ j, mem' 119 j = if 24 * i ≤ j ∧ j < 24 * i + k then 0 else mem 119 j) → ab_Go l G ol (d + 2) mM_sheet (ab_mc mM_sheet) (ab_ms mM_sheet) (fun r sh rf mem nx _ _ => K r sh rf mem nx) 66 [.ref 101, .int (nI i), .int so, .int n, .int (nI k)] [] sh rf mem' nx 0 0 from loop 24 0 rfl _ (fun _ _ => rfl) (fun j => by rw [if_neg (by omega), ab_w_ne _ _ _ (by decide), ab_w_ne _ _ _ (by decide)])
    intro r
    induction r with
    | zero =>
      intro k hk2 mem' F E
      have : k = 24 := by omega
      subst this
      refine h_mM_sheet_66 ⟨fun _ => ⟨m9 hS, ma hS rfl rfl rfl v4 ⟨trivial, ?_⟩⟩, fun z => absurd (by decide) z⟩
      rw [ci, F 118 (by decide), w_eq]
      refine hk mem' (fun a a1 a2 a3 => by rw [F a a3, ab_w_ne _ _ _ a2, ab_w_ne _ _ _ a1]) ?_ ?_ E
      · rw [F 117 (by decide), ab_w_ne _ _ _ (by decide), ab_w_self]
      · rw [F 118 (by decide), ab_w_self, ab_w_ne _ _ _ (by decide)]
    | succ r ih =>
      intro k hk2 mem' F E
      refine h_mM_sheet_66 ⟨fun z => absurd z (nI_ge (b := 24) (by omega) (by decide)), fun _ => ?_⟩
      rw [c24]
      refine ⟨m9 hS, ma hS rfl rfl rfl (vp_in_nI (by omega) (by decide)) ?_⟩
      rw [cl_nI (by omega), nI_1]
      refine ih (k + 1) (by omega) _ (fun a ha => by rw [ab_w_ne _ _ _ ha]; exact F a ha) (fun j => ?_)
      by_cases e : j = 24 * i + k
      · subst e; rw [w_eq, if_pos (by omega)]
      · rw [w_ne _ _ (Or.inr e), E]
        by_cases c : 24 * i ≤ j ∧ j < 24 * i + k
        · rw [if_pos c, if_pos (by omega)]
        · rw [if_neg c, if_neg (by omega)]
  refine ⟨fun y => ⟨fun _ => ⟨m9 hS, ma hS rfl rfl rfl v4 ⟨m9 hS, rd_of hS rfl rfl ⟨fun z => absurd y (Int32.not_lt.mpr z), fun _ => ⟨i118, v118, ?_⟩⟩⟩⟩, fun z => absurd y z⟩, fun y => ⟨fun y2 => ⟨fun z => absurd z y, fun _ => ⟨fun y3 => ⟨m9 hS, ma hS rfl rfl rfl v4 ⟨m9 hS, rd_of hS rfl rfl ⟨fun _ => ⟨i118, v118, ?_⟩, fun z => absurd (Int32.not_lt.mp y) z⟩⟩⟩, fun y3 => ⟨trivial, hZ ⟨q, q2, fun _ => y2⟩ (fun e => y (hs1.mpr e)) (Int32.not_le.mp y3)⟩⟩⟩, fun y2 => ⟨trivial, hB fun z => y2 (z.2.2 fun e => y (hs1.mpr e))⟩⟩⟩
  · rw [ci]; exact key 0 (Or.inl ⟨hs1.mp y, rfl⟩)
  · rw [ci]
    obtain ⟨k, hk, ek⟩ := rg_of (M := 24) (by omega) ⟨y3, y2⟩
    exact key n (Or.inr ⟨fun e => y (hs1.mpr e), k, hk, ek, rfl⟩)
theorem m_mark (hS : St sh rf nx) (hz : ∀ i, i < 4 → ∃ z, z ≤ 24 ∧ mem 118 i = nI z) (hso : ∀ i, i < 4 → mem 117 i = -1 ∨ mem 117 i = 0 ∨ mem 117 i = 1) {s p v : Int32} (hB : ¬ (0 ≤ s ∧ s ≤ 3) → K (some (.int (-1000000001))) sh rf mem nx) (hK : ∀ i, i < 4 → s = nI i → K (some (.int (mrk (mem 117 i) (0 ≤ p ∧ p ≤ mem 118 i - 1) v).1)) sh rf (wrO mem 119 (24 * i + Int32.toNatClampNeg p) (mrk (mem 117 i) (0 ≤ p ∧ p ≤ mem 118 i - 1) v).2) nx) : ab_Cx l G ol (d + 3) mM_mark [.ref 101, .int s, .int p, .int v] sh rf mem nx K := by
  refine e_mM_mark ⟨by decide, m_isSheet ⟨_, rfl, br1 (fun q => ?_) (fun q => ⟨trivial, hB q⟩)⟩⟩
  obtain ⟨i, hi, rfl⟩ := rg_of (M := 3) (by omega) q
  have hi4 : i < 4 := by omega
  have ci : Int32.toNatClampNeg (nI i) = i := cl_nI (by omega)
  have v4 : vp_in (nI i) 4 := vp_in_nI hi4 (by decide)
  have hk := hK i hi4 rfl
  obtain ⟨z, hz24, ez⟩ := hz i hi4
  rw [ez] at hk
  rw [ci]
  rcases hso i hi4 with e | e | e
  · refine ⟨m9 hS, ma hS rfl rfl rfl v4 ?_⟩
    rw [e]
    refine ⟨fun y => absurd y (by decide), fun _ => ⟨trivial, ?_⟩⟩
    rw [e] at hk
    exact hk
  · refine ⟨m9 hS, ma hS rfl rfl rfl v4 ?_⟩
    rw [e]
    rw [e] at hk
    refine ⟨fun _ => ⟨m9 hS, ma hS rfl rfl rfl v4 ⟨by decide, ?_⟩⟩, fun y => absurd (by decide) y⟩
    rw [ez]
    refine m_in ⟨_, rfl, br1 (fun y => ⟨m9 hS, ma hS rfl rfl rfl v4 ?_⟩) (fun y => ⟨trivial, ?_⟩)⟩
    · rw [e]
      have y0 := y
      obtain ⟨j, hj, rfl⟩ := ix_of (by omega) y
      rw [c24, cl_nI (by omega)]
      rw [cl_nI (by omega)] at hk
      have i119 : ab_is sh nx 119 10 := is_of hS rfl rfl
      have v119 : vp_in (nI (24 * i + j)) (sh 119).2 := in_of hS rfl rfl (vp_in_nI (by omega : 24 * i + j < 96) (by decide))
      refine ⟨fun z => absurd rfl z, fun _ => ⟨fun w => ⟨m9 hS, ma hS rfl rfl rfl v4 ?_⟩, fun w => ⟨trivial, ?_⟩⟩⟩
      · rw [e]
        refine ⟨fun _ => ⟨m9 hS, rd_of hS rfl rfl ⟨m9 hS, ma hS rfl rfl rfl v4 ?_⟩⟩, fun z => absurd z (by decide)⟩
        rw [e]
        refine ⟨fun z => absurd rfl z, fun _ => ⟨i119, v119, trivial, ?_⟩⟩
        unfold mrk at hk
        rw [if_neg (by decide), if_neg (fun c => c y0), if_pos rfl, if_neg w] at hk
        exact hk
      · unfold mrk at hk
        rw [if_neg (by decide), if_neg (fun c => c y0), if_pos rfl, if_pos w] at hk
        exact hk
    · unfold mrk at hk
      rw [if_neg (by decide), if_pos y] at hk
      exact hk
  · refine ⟨m9 hS, ma hS rfl rfl rfl v4 ?_⟩
    rw [e]
    rw [e] at hk
    refine ⟨fun _ => ⟨m9 hS, ma hS rfl rfl rfl v4 ⟨by decide, ?_⟩⟩, fun y => absurd (by decide) y⟩
    rw [ez]
    refine m_in ⟨_, rfl, br1 (fun y => ⟨m9 hS, ma hS rfl rfl rfl v4 ?_⟩) (fun y => ⟨trivial, ?_⟩)⟩
    · rw [e]
      have y0 := y
      obtain ⟨j, hj, rfl⟩ := ix_of (by omega) y
      rw [c24, cl_nI (by omega)]
      rw [cl_nI (by omega)] at hk
      have i119 : ab_is sh nx 119 10 := is_of hS rfl rfl
      have v119 : vp_in (nI (24 * i + j)) (sh 119).2 := in_of hS rfl rfl (vp_in_nI (by omega : 24 * i + j < 96) (by decide))
      unfold mrk at hk
      rw [if_neg (by decide), if_neg (fun c => c y0), if_neg (by decide)] at hk
      refine ⟨fun _ => ⟨m9 hS, ma hS rfl rfl rfl v4 ?_⟩, fun z => absurd z (by decide)⟩
      rw [e]
      refine ⟨fun z => absurd rfl z, fun _ => ⟨fun w => ⟨m9 hS, rd_of hS rfl rfl ⟨m9 hS, ma hS rfl rfl rfl v4 ?_⟩⟩, fun w => ⟨by decide, m_in ⟨_, rfl, br1 (fun w2 => ⟨m9 hS, rd_of hS rfl rfl ⟨m9 hS, ma hS rfl rfl rfl v4 ?_⟩⟩) (fun w2 => ⟨trivial, ?_⟩)⟩⟩⟩⟩
      · rw [e]
        refine ⟨fun _ => ⟨i119, v119, trivial, ?_⟩, fun z => absurd z (by decide)⟩
        rw [if_neg (fun c => c.1 w)] at hk
        exact hk
      · rw [e]
        refine ⟨fun _ => ⟨i119, v119, trivial, ?_⟩, fun z => absurd z (by decide)⟩
        rw [if_neg (fun c => c.2 w2)] at hk
        exact hk
      · rw [if_pos ⟨w, w2⟩] at hk
        exact hk
    · unfold mrk at hk
      rw [if_neg (by decide), if_pos y] at hk
      exact hk
end XY
