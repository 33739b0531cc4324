/-! THE CLASS: pour, reads, copy, slots, rows that are told, images -/
section XU
variable {l : Launch} {G : ab_G} {ol : ab_Ol} {d : Nat} {sh : ab_S} {rf : ab_R} {nx : Nat} {K : ab_K} {mem : ab_N} {N : Nat} {f : Row}
set_option maxHeartbeats 4000000 in
theorem x_pour (hS : St sh rf nx) (hN : N ≤ 8) (hR : RW mem 4 N f) (hz : ∀ i, i < 4 → ∃ z, z ≤ 24 ∧ mem (shC i) 1 = nI z) {s : Int32} (hB : ¬ (0 ≤ s ∧ s ≤ 3) → K (some (.int (-1000000001))) sh rf mem nx) (hZ : ∀ i, i < 4 → s = nI i → mem (shC i) 0 = -1 → K (some (.int (-1000000011))) sh rf mem nx) (hK : ∀ i z, i < 4 → s = nI i → ¬ mem (shC i) 0 = -1 → z ≤ 24 → mem (shC i) 1 = nI z → ∀ mem', Fr 4 mem mem' → mem' 3 = mem 3 → RW mem' 4 N (poF f (mem (shC i + 1)) (min N z)).1 → K (some (.int (poF f (mem (shC i + 1)) (min N z)).2)) sh rf mem' nx) : ab_Cx l G ol (d + 3) mX_pour [.ref 0, .int s] sh rf mem nx K := by
  have i0 : ab_is sh nx 0 8 := is_of hS rfl rfl
  have i4 : ab_is sh nx 4 7 := is_of hS rfl rfl
  refine e_mX_pour ⟨by decide, s_isSheet ⟨_, rfl, br1 (fun h1 => ?_) (fun h1 => ⟨trivial, hB h1⟩)⟩⟩
  obtain ⟨i, hi, rfl⟩ := rg_of (M := 3) (by omega) h1
  have hi4 : i < 4 := by omega
  have hr := sh_rd hi4
  have ir := rd_is hS hr
  obtain ⟨z, hz24, ez⟩ := hz i hi4
  refine ⟨i0, sh_acc hS hi4 ⟨ir, fun q => ?_, fun q => ⟨trivial, hZ i hi4 rfl q⟩⟩⟩
  have hk := hK i z hi4 rfl q hz24 ez
  suffices loop : ∀ r k, k + r = min N z → ∀ mem', Fr 4 mem mem' → mem' 3 = mem 3 → RW mem' 4 N (poF f (mem (shC i + 1)) k).1 → ∀ u5, ab_Go l G ol (d + 2) mX_pour (ab_mc mX_pour) (ab_ms mX_pour) (fun r sh rf mem nx _ _ => K r sh rf mem nx) 33 [.ref 0, .int (nI i), .ref (shC i), .int (poF f (mem (shC i + 1)) k).2, .int (nI k), u5] [] sh rf mem' nx 0 0 from loop _ 0 (Nat.zero_add _) mem Fr.rfl rfl hR _
  intro r
  induction r with
  | zero =>
    intro k hk' mem' hF h3 R' u5
    have e1 : mem' (shC i) 1 = nI z := by rw [hF.no3 h3 _ (by unfold shC; omega)]; exact ez
    refine h_mX_pour_33 ⟨i0, rd_of hS rfl rfl ⟨i4, ?_⟩⟩
    rw [R'.1.2.1, e1]
    have hk2 := hk mem' hF h3 (by rw [← hk']; exact R')
    rw [← hk'] at hk2
    refine ⟨fun _ => ⟨trivial, hk2⟩, fun g => ⟨ir, fun _ => ⟨trivial, hk2⟩, fun g2 => ?_⟩⟩
    have a1 : k < N := by
      rcases Nat.lt_or_ge k N with c | c
      · exact c
      · exact absurd (nI_le c (by omega)) g
    have a2 : k < z := by
      rcases Nat.lt_or_ge k z with c | c
      · exact c
      · exact absurd (nI_le c (by omega)) g2
    omega
  | succ r ih =>
    intro k hk' mem' hF h3 R' u5
    have e1 : mem' (shC i) 1 = nI z := by rw [hF.no3 h3 _ (by unfold shC; omega)]; exact ez
    have e2 : mem' (shC i + 1) = mem (shC i + 1) := hF.no3 h3 _ (by unfold shC; omega)
    have hk8 : k < 8 := by omega
    have hkN : k < N := by omega
    have ht := wd_td w4 hk8
    have nxt := ih (k + 1) (by omega)
    refine h_mX_pour_33 ⟨i0, rd_of hS rfl rfl ⟨i4, ?_⟩⟩
    rw [R'.1.2.1, e1]
    refine ⟨fun g => absurd g (nI_ge hkN (by omega)), fun _ => ⟨ir, fun g => absurd g (nI_ge (by omega) (by omega)), fun _ => ⟨ir, s_isNumber (d := d + 1) hS hr (by omega) ⟨_, rfl, br0 (fun g => ⟨ir, rd_rd hS hr ⟨rd_is1 hS hr, rd_in hS hr (vp_in_nI (by omega) (by decide)), by decide, s_held (d := d) ⟨_, rfl, i0, rd_of hS rfl rfl ⟨i4, wd_acc hS w4 hk8 ⟨td_is hS ht, ?_⟩⟩⟩⟩⟩) (fun g => ?_)⟩⟩⟩⟩
    · rw [cl_nI (by omega), e2, nI_1, R'.2.1 k 1 hkN (by decide)]
      have g' : ¬ mem (shC i + 1) k = -1000000005 := by rw [← e2]; exact g
      have es : poF f (mem (shC i + 1)) (k + 1) = (upd (poF f (mem (shC i + 1)) k).1 (tI k 1) (h99 (mem (shC i + 1) k)), if h99 (mem (shC i + 1) k) = (poF f (mem (shC i + 1)) k).1 (tI k 1) then (poF f (mem (shC i + 1)) k).2 else (poF f (mem (shC i + 1)) k).2 + 1) := by rw [poF, po1, if_neg g']
      rw [es] at nxt
      simp only at nxt
      refine ⟨fun c => ?_, fun c => ⟨i0, rd_of hS rfl rfl ⟨i4, rd_of hS rfl rfl ⟨is_of hS rfl rfl, in_of hS rfl rfl (vp_in_nI hk8 (by decide)), wd_rdt hS w4 hk8 ⟨td_is hS ht, ?_⟩⟩⟩⟩⟩
      · have c' : h99 (mem (shC i + 1) k) = (poF f (mem (shC i + 1)) k).1 (tI k 1) := c
        rw [if_pos c'] at nxt
        exact nxt mem' hF h3 (by rw [fa_us c'.symm]; exact R') _
      · have c' : ¬ h99 (mem (shC i + 1) k) = (poF f (mem (shC i + 1)) k).1 (tI k 1) := c
        rw [if_neg c'] at nxt
        exact nxt _ (hF.trans (Fr.w10 hk8)) (by rw [ab_w_ne _ _ _ (by omega)]; exact h3) (R'.put hkN (by decide) _) _
    · have g' : mem (shC i + 1) k = -1000000005 := by rw [← e2]; exact Classical.byContradiction g
      have es : poF f (mem (shC i + 1)) (k + 1) = poF f (mem (shC i + 1)) k := by rw [poF, po1, if_pos g']
      rw [es] at nxt
      rw [nI_1]
      exact nxt mem' hF h3 R' _
set_option maxHeartbeats 4000000 in
theorem x_reads (hS : St sh rf nx) (hN : N ≤ 8) (hR : RW mem 4 N f) (hz : ∀ i, i < 4 → ∃ z, z ≤ 24 ∧ mem (shC i) 1 = nI z) {s : Int32} (hB : ¬ (0 ≤ s ∧ s ≤ 3) → K (some (.int (-1000000001))) sh rf mem nx) (hZ : ∀ i, i < 4 → s = nI i → mem (shC i) 0 = -1 → K (some (.int (-1000000011))) sh rf mem nx) (hK : ∀ i z, i < 4 → s = nI i → ¬ mem (shC i) 0 = -1 → z ≤ 24 → mem (shC i) 1 = nI z → K (some (.int (rdG f N (mem (shC i + 1)) 0 z))) sh rf mem nx) : ab_Cx l G ol (d + 3) mX_reads [.ref 0, .int s] sh rf mem nx K := by
  have i0 : ab_is sh nx 0 8 := is_of hS rfl rfl
  have i4 : ab_is sh nx 4 7 := is_of hS rfl rfl
  refine e_mX_reads ⟨by decide, s_isSheet ⟨_, rfl, br1 (fun h1 => ?_) (fun h1 => ⟨trivial, hB h1⟩)⟩⟩
  obtain ⟨i, hi, rfl⟩ := rg_of (M := 3) (by omega) h1
  have hi4 : i < 4 := by omega
  have hr := sh_rd hi4
  have ir := rd_is hS hr
  obtain ⟨z, hz24, ez⟩ := hz i hi4
  refine ⟨i0, sh_acc hS hi4 ⟨ir, fun q => ?_, fun q => ⟨trivial, hZ i hi4 rfl q⟩⟩⟩
  have hk := hK i z hi4 rfl q hz24 ez
  suffices loop : ∀ r k, k + r = z → K (some (.int (rdG f N (mem (shC i + 1)) k r))) sh rf mem nx → ab_Go l G ol (d + 2) mX_reads (ab_mc mX_reads) (ab_ms mX_reads) (fun r sh rf mem nx _ _ => K r sh rf mem nx) 30 [.ref 0, .int (nI i), .ref (shC i), .int (nI k)] [] sh rf mem nx 0 0 from loop z 0 (Nat.zero_add _) hk
  intro r
  induction r with
  | zero =>
    intro k hk' h
    refine h_mX_reads_30 ⟨ir, ?_⟩
    rw [ez]
    exact ⟨fun _ => ⟨trivial, h⟩, fun g => absurd (nI_le (by omega) (by omega)) g⟩
  | succ r ih =>
    intro k hk' h
    rw [rdG] at h
    refine h_mX_reads_30 ⟨ir, ?_⟩
    rw [ez]
    refine ⟨fun g => absurd g (nI_ge (by omega) (by omega)), fun _ => ⟨ir, s_isNumber (d := d + 1) hS hr (by omega) ⟨_, rfl, br0 (fun g => ⟨i0, rd_of hS rfl rfl ⟨i4, ?_⟩⟩) (fun g => ?_)⟩⟩⟩
    · rw [hR.1.2.1]
      refine ⟨fun c => ⟨trivial, ?_⟩, fun c => ⟨ir, rd_rd hS hr ⟨rd_is1 hS hr, rd_in hS hr (vp_in_nI (by omega) (by decide)), i0, rd_of hS rfl rfl ⟨i4, ?_⟩⟩⟩⟩
      · rw [if_pos ⟨g, Or.inl ((nI_leI (by omega) (by omega)).mp c)⟩] at h; exact h
      · have hkN : k < N := by
          rcases Nat.lt_or_ge k N with c' | c'
          · exact c'
          · exact absurd (nI_le c' (by omega)) c
        have hk8 : k < 8 := by omega
        have ht := wd_td w4 hk8
        refine wd_acc hS w4 hk8 ⟨td_is hS ht, td_rd hS ht ⟨td_is1 hS ht, td_in hS ht (pk_in 0 6 (by decide)), ?_⟩⟩
        rw [cl_nI (by omega), show Int32.toNatClampNeg (0 : Int32) = 0 by decide, show 4 + 3 + 2 * k + 1 = 4 + 4 + 2 * k by omega, hR.2.2 k 0 hkN (by decide)]
        refine ⟨fun c2 => ?_, fun c2 => ⟨trivial, ?_⟩⟩
        · rw [if_neg (fun y => by
            rcases y.2 with y | y
            · omega
            · exact y c2)] at h
          rw [nI_1]
          exact ih (k + 1) (by omega) h
        · rw [if_pos ⟨g, Or.inr c2⟩] at h; exact h
    · rw [if_neg (fun y => g y.1)] at h
      rw [nI_1]
      exact ih (k + 1) (by omega) h
theorem s_hasP (hS : St sh rf nx) {r z : Nat} (hr : Rd r) (hz : z ≤ 24) (ez : mem r 1 = nI z) {p m : Int32} (h1 : hasP z p m → K (some (.int 1)) sh rf mem nx) (h0 : ¬ hasP z p m → K (some (.int 0)) sh rf mem nx) : ab_Cx l G ol (d + 2) mRo_hasPlaces [.ref r, .int p, .int m] sh rf mem nx K := by
  have ir := rd_is hS hr
  refine e_mRo_hasPlaces ⟨ir, by decide, ?_⟩
  rw [ez]
  refine s_within ⟨_, rfl, br0 (fun q => ⟨ir, by decide, ?_⟩) (fun q => ⟨Or.inl rfl, h0 ?_⟩)⟩
  · rw [ez]
    obtain ⟨b, hb, rfl⟩ := rg_of (by omega) q
    rw [pk_sub hb]
    refine s_within ⟨_, rfl, br0 (fun q2 => ⟨Or.inr rfl, h1 ?_⟩) (fun q2 => ⟨Or.inl rfl, h0 ?_⟩)⟩
    · obtain ⟨a, ha, rfl⟩ := rg_of (by omega) q2
      exact ⟨a, b, rfl, rfl, by omega, by omega, by omega⟩
    · rintro ⟨a, b', rfl, e, hab, ha, hb'⟩
      have : b = b' := (nI_eq (by omega) hb').mp e
      subst this
      exact q2 ⟨nI_pos' ha, nI_le (by omega) (by omega)⟩
  · rintro ⟨a, b, _, rfl, hab, ha, hb⟩
    exact q ⟨nI_pos' hb, nI_le (by omega) (by omega)⟩
theorem x_copy (hS : St sh rf nx) (hz : ∀ i, i < 4 → ∃ z, z ≤ 24 ∧ mem (shC i) 1 = nI z) {s p t a m : Int32} (hB : ¬ ((0 ≤ s ∧ s ≤ 3) ∧ (0 ≤ t ∧ t ≤ 3)) → K (some (.int (-1000000001))) sh rf mem nx) (hK : ∀ i j zi zj, i < 4 → j < 4 → s = nI i → t = nI j → zi ≤ 24 → zj ≤ 24 → mem (shC i) 1 = nI zi → mem (shC j) 1 = nI zj → ((mem (shC i) 0 = -1 ∨ mem (shC j) 0 = -1) → K (some (.int (-1000000011))) sh rf mem nx) ∧ (¬ mem (shC i) 0 = -1 → ¬ mem (shC j) 0 = -1 → ((¬ mem (shC i) 0 = mem (shC j) 0) → K (some (.int (-1000000012))) sh rf mem nx) ∧ (mem (shC i) 0 = mem (shC j) 0 → (¬ (hasP zi p m ∧ hasP zj a m) → K (some (.int (-1000000013))) sh rf mem nx) ∧ (hasP zi p m → hasP zj a m → K (some (.int m)) sh rf (ab_row mem (shC j + 1) (va_cpy (mem (shC i + 1)) (mem (shC j + 1)) (Int32.toNatClampNeg p) (Int32.toNatClampNeg a) (Int32.toNatClampNeg m))) nx)))) : ab_Cx l G ol (d + 3) mX_copy [.ref 0, .int s, .int p, .int t, .int a, .int m] sh rf mem nx K := by
  have i0 : ab_is sh nx 0 8 := is_of hS rfl rfl
  refine e_mX_copy ⟨by decide, s_isSheet ⟨_, rfl, br0 (fun h1 => ⟨by decide, s_isSheet ⟨_, rfl, br1 (fun h2 => ?_) (fun h2 => ⟨trivial, hB fun z => h2 z.2⟩)⟩⟩) (fun h1 => ⟨trivial, hB fun z => h1 z.1⟩)⟩⟩
  obtain ⟨i, hi, rfl⟩ := rg_of (M := 3) (by omega) h1
  obtain ⟨j, hj, rfl⟩ := rg_of (M := 3) (by omega) h2
  have hri := sh_rd (by omega : i < 4)
  have hrj := sh_rd (by omega : j < 4)
  have ii := rd_is hS hri
  have ij := rd_is hS hrj
  obtain ⟨zi, hzi, ezi⟩ := hz i (by omega)
  obtain ⟨zj, hzj, ezj⟩ := hz j (by omega)
  have hk := hK i j zi zj (by omega) (by omega) rfl rfl hzi hzj ezi ezj
  refine ⟨i0, sh_acc hS (by omega) ⟨i0, sh_acc hS (by omega) ⟨ii, fun q => ⟨trivial, hk.1 (Or.inl q)⟩, fun q1 => ⟨ij, fun q2 => ⟨ii, ij, fun q3 => ⟨ii, s_hasP (d := d) hS hri hzi ezi (fun y1 => ⟨_, rfl, fun c => absurd c (by decide), fun _ => ⟨ij, s_hasP (d := d) hS hrj hzj ezj (fun y2 => ⟨_, rfl, fun _ => ⟨ii, rd_rd hS hri ⟨ij, rd_rd hS hrj ⟨⟨rd_is1 hS hri, rd_is1 hS hrj, ?_, ?_, ?_, ?_, ?_⟩, trivial, ((hk.2 q1 q2).2 q3).2 y1 y2⟩⟩⟩, fun c => absurd c (by decide)⟩) (fun y2 => ⟨_, rfl, fun c => absurd rfl c, fun _ => ⟨trivial, ((hk.2 q1 q2).2 q3).1 fun z => y2 z.2⟩⟩)⟩⟩) (fun y1 => ⟨_, rfl, fun _ => ⟨trivial, ((hk.2 q1 q2).2 q3).1 fun z => y1 z.1⟩, fun c => absurd rfl c⟩)⟩, fun q3 => ⟨trivial, (hk.2 q1 q2).1 q3⟩⟩, fun q2 => ⟨trivial, hk.1 (Or.inr q2)⟩⟩⟩⟩⟩
  · obtain ⟨a1, b1, e, _, _, h, _⟩ := y1; rw [e]; exact nI_pos h
  · obtain ⟨a1, b1, e, _, _, h, _⟩ := y2; rw [e]; exact nI_pos h
  · obtain ⟨a1, b1, _, e, _, _, h⟩ := y1; rw [e]; exact nI_pos h
  · obtain ⟨a1, b1, e1, e2, h1, h2, h3⟩ := y1
    rw [rd_sh1 hS hri, e1, e2, cl_nI h2, cl_nI h3]; omega
  · obtain ⟨a1, b1, e1, e2, h1, h2, h3⟩ := y2
    rw [rd_sh1 hS hrj, e1, e2, cl_nI h2, cl_nI h3]; omega
theorem sl_is (hS : St sh rf nx) {i : Nat} (hi : i < 5) : ab_is sh nx (slC i) 4 := by
  have : ∀ i, i < 5 → (Nat.blt (slC i) 126 = true ∧ (shS (slC i)).1 = 4) := by decide +kernel
  exact is_of hS (this i hi).1 (this i hi).2
theorem sl_td {i : Nat} (hi : i < 5) : Td (slC i + 1) := by
  have : ∀ i, i < 5 → (shS (slC i + 1)).1 = 6 ∧ slC i + 1 < 126 := by decide +kernel
  exact this i hi
theorem sl_rd {i : Nat} (hi : i < 5) : Rd (slC i + 3) := by
  have : ∀ i, i < 5 → (shS (slC i + 3)).1 = 3 ∧ slC i + 3 < 126 := by decide +kernel
  exact this i hi
theorem sl_rd2 (hS : St sh rf nx) {i : Nat} (hi : i < 5) {C : Nat → Prop} (hk : C (slC i + 1)) : ab_rd (rf (slC i) 2) C := by
  have : ∀ i, i < 5 → ((Nat.blt (slC i) 126 && !(Nat.beq (slC i) 2)) = true ∧ rfS (slC i) 2 = some (slC i + 1)) := by decide +kernel
  exact rd_of hS (this i hi).1 (this i hi).2 hk
theorem sl_rd3 (hS : St sh rf nx) {i : Nat} (hi : i < 5) {C : Nat → Prop} (hk : C (slC i + 3)) : ab_rd (rf (slC i) 3) C := by
  have : ∀ i, i < 5 → ((Nat.blt (slC i) 126 && !(Nat.beq (slC i) 2)) = true ∧ rfS (slC i) 3 = some (slC i + 3)) := by decide +kernel
  exact rd_of hS (this i hi).1 (this i hi).2 hk
theorem sl_acc (hS : St sh rf nx) {i : Nat} (hi : i < 5) {C : Nat → Prop} (hk : C (slC i)) : ab_rd (rf 0 10) fun b => ab_is sh nx b 24 ∧ vp_in (nI i) (sh b).2 ∧ ab_rd (rf b (Int32.toNatClampNeg (nI i))) C := by
  refine rd_of hS rfl rfl ⟨is_of hS rfl rfl, in_of hS rfl rfl (vp_in_nI hi (by decide)), ?_⟩
  rw [cl_nI (by omega)]
  have : ∀ i, i < 5 → rfS 66 i = some (slC i) := by decide +kernel
  exact rd_of hS rfl (this i hi) hk
theorem s_other (hS : St sh rf nx) {i : Nat} (hi : i < 5) (h : K (some (.int (otA (mem (slC i) 0)))) sh rf mem nx) : ab_Cx l G ol (d + 1) mSl_otherThan [.ref (slC i)] sh rf mem nx K := by
  unfold otA at h
  refine e_mSl_otherThan ⟨sl_is hS hi, fun q => ⟨trivial, ?_⟩, fun q => ⟨trivial, ?_⟩⟩
  · rw [if_neg q] at h; exact h
  · rw [if_pos q] at h; exact h
theorem x_ask (hS : St sh rf nx) (hA : KA ol) (hk : ∀ i, i < 5 → mem (slC i) 0 = 1 → ∃ k, k < 6 ∧ mem (slC i + 1) 0 = nI k) {s w : Int32} (hB : ¬ ((0 ≤ s ∧ s ≤ 4) ∧ (0 ≤ w ∧ w ≤ 5)) → K (some (.int (-1000000001))) sh rf mem nx) (hK : ∀ i, i < 5 → s = nI i → (0 ≤ w ∧ w ≤ 5) → K (some (.int (if mem (slC i) 0 = 1 then (if und (mem (slC i + 1) 0) w then wth (mem (slC i + 1) 0) (mem (slC i + 1) 1) (mem (slC i + 1) 2) else -1000000012) else otA (mem (slC i) 0)))) sh rf mem nx) : ab_Cx l G ol (d + 3) mX_ask [.ref 0, .int s, .int w] sh rf mem nx K := by
  have i0 : ab_is sh nx 0 8 := is_of hS rfl rfl
  refine e_mX_ask ⟨by decide, s_isSlot ⟨_, rfl, br0 (fun h1 => ⟨by decide, s_isKind ⟨_, rfl, br1 (fun h2 => ?_) (fun h2 => ⟨trivial, hB fun z => h2 z.2⟩)⟩⟩) (fun h1 => ⟨trivial, hB fun z => h1 z.1⟩)⟩⟩
  obtain ⟨i, hi, rfl⟩ := rg_of (M := 4) (by omega) h1
  have hi5 : i < 5 := by omega
  have hkk := hK i hi5 rfl h2
  obtain ⟨o, ho, rfl⟩ := rg_of (M := 5) (by omega) h2
  have ht := sl_td hi5
  refine ⟨i0, sl_acc hS hi5 ⟨sl_is hS hi5, fun q => ⟨sl_is hS hi5, sl_rd2 hS hi5 ⟨td_is hS ht, ?_⟩⟩, fun q => ⟨sl_is hS hi5, s_other (d := d + 1) hS hi5 ⟨_, rfl, trivial, ?_⟩⟩⟩⟩
  · rw [if_pos q] at hkk
    obtain ⟨k, hk6, ek⟩ := hk i hi5 q
    refine s_isOf (d := d + 1) hS ht hA hk6 ek (by omega) ⟨_, rfl, br0 (fun y => ⟨sl_is hS hi5, sl_rd2 hS hi5 ⟨td_is hS ht, s_worth (d := d + 1) hS ht ⟨_, rfl, trivial, ?_⟩⟩⟩) (fun y => ⟨trivial, ?_⟩)⟩
    · rw [if_pos (by rw [ek]; exact y)] at hkk; exact hkk
    · rw [if_neg (by rw [ek]; exact y)] at hkk; exact hkk
  · rw [if_neg q] at hkk; exact hkk
theorem x_item (hS : St sh rf nx) (hz : ∀ i, i < 5 → mem (slC i) 0 = 2 → ∃ z, z ≤ 24 ∧ mem (slC i + 3) 1 = nI z) {s p : Int32} (hB : ¬ (0 ≤ s ∧ s ≤ 4) → K (some (.int (-1000000001))) sh rf mem nx) (hK : ∀ i, i < 5 → s = nI i → K (some (.int (if mem (slC i) 0 = 2 then (if 0 ≤ p ∧ p ≤ mem (slC i + 3) 1 - 1 then (if mem (slC i + 4) (Int32.toNatClampNeg p) = -1000000005 then -1000000012 else mem (slC i + 4) (Int32.toNatClampNeg p)) else -1000000013) else otA (mem (slC i) 0)))) sh rf mem nx) : ab_Cx l G ol (d + 3) mX_item [.ref 0, .int s, .int p] sh rf mem nx K := by
  have i0 : ab_is sh nx 0 8 := is_of hS rfl rfl
  refine e_mX_item ⟨by decide, s_isSlot ⟨_, rfl, br1 (fun h1 => ?_) (fun h1 => ⟨trivial, hB h1⟩)⟩⟩
  obtain ⟨i, hi, rfl⟩ := rg_of (M := 4) (by omega) h1
  have hi5 : i < 5 := by omega
  have hkk := hK i hi5 rfl
  have hr := sl_rd hi5
  have is := sl_is hS hi5
  refine ⟨i0, sl_acc hS hi5 ⟨is, fun q => ⟨is, sl_rd3 hS hi5 ⟨rd_is hS hr, by decide, s_within ⟨_, rfl, br1 (fun y => ⟨is, sl_rd3 hS hi5 ⟨rd_is hS hr, ?_⟩⟩) (fun y => ⟨trivial, ?_⟩)⟩⟩⟩, fun q => ⟨is, s_other (d := d + 1) hS hi5 ⟨_, rfl, trivial, ?_⟩⟩⟩⟩
  · rw [if_pos q, if_pos y] at hkk
    obtain ⟨z, hz24, ez⟩ := hz i hi5 q
    rw [ez] at y
    obtain ⟨j, hj, rfl⟩ := ix_of (by omega) y
    rw [cl_nI (by omega)] at hkk
    refine s_isNumber (d := d + 1) hS hr (by omega) ⟨_, rfl, br0 (fun c => ⟨is, sl_rd3 hS hi5 ⟨rd_is hS hr, rd_rd hS hr ⟨rd_is1 hS hr, rd_in hS hr (vp_in_nI (by omega) (by decide)), trivial, ?_⟩⟩⟩) (fun c => ⟨trivial, ?_⟩)⟩
    · rw [if_neg c] at hkk; rw [cl_nI (by omega)]; exact hkk
    · rw [if_pos (Classical.byContradiction c)] at hkk; exact hkk
  · rw [if_pos q, if_neg y] at hkk; exact hkk
  · rw [if_neg q] at hkk; exact hkk
theorem x_rest (hS : St sh rf nx) {s n : Int32} (hB : ¬ (0 ≤ s ∧ s ≤ 4) → K (some (.int (-1000000001))) sh rf mem nx) (hK : ∀ i, i < 5 → s = nI i → K (some (.int (if mem (slC i) 0 = 3 then (if n = 0 then -1000000002 else rem (mem (slC i) 1) n) else otA (mem (slC i) 0)))) sh rf mem nx) : ab_Cx l G ol (d + 3) mX_rest [.ref 0, .int s, .int n] sh rf mem nx K := by
  have i0 : ab_is sh nx 0 8 := is_of hS rfl rfl
  refine e_mX_rest ⟨by decide, s_isSlot ⟨_, rfl, br1 (fun h1 => ?_) (fun h1 => ⟨trivial, hB h1⟩)⟩⟩
  obtain ⟨i, hi, rfl⟩ := rg_of (M := 4) (by omega) h1
  have hi5 : i < 5 := by omega
  have hkk := hK i hi5 rfl
  have is := sl_is hS hi5
  refine ⟨i0, sl_acc hS hi5 ⟨is, fun q => ⟨fun y => ⟨is, y, trivial, ?_⟩, fun y => ⟨trivial, ?_⟩⟩, fun q => ⟨is, s_other (d := d + 1) hS hi5 ⟨_, rfl, trivial, ?_⟩⟩⟩⟩
  · rw [if_pos q, if_neg y] at hkk; exact hkk
  · rw [if_pos q, if_pos y] at hkk; exact hkk
  · rw [if_neg q] at hkk; exact hkk
theorem x_tell (hS : St sh rf nx) {W : Nat} (hW : W ≤ 60) (e : mem 0 12 = nI W) {v : Int32} (hF : W = 60 → K (some (.int (-1000000003))) sh rf mem nx) (hK : W < 60 → K (some (.int (nI (W + 1)))) sh rf (ab_w (ab_w mem 67 W v) 0 12 (nI (W + 1))) nx) : ab_Cx l G ol (d + 1) mX_tell [.ref 0, .int v] sh rf mem nx K := by
  have i0 : ab_is sh nx 0 8 := is_of hS rfl rfl
  refine e_mX_tell ⟨i0, ?_⟩
  rw [e]
  refine ⟨fun q => ?_, fun q => ⟨trivial, hF ?_⟩⟩
  · have hq : W < 60 := (nI_ltI (b := 60) (by omega) (by decide)).mp q
    refine ⟨i0, rd_of hS rfl rfl ⟨i0, is_of hS rfl rfl, in_of hS rfl rfl (vp_in_nI hq (by decide)), i0, i0, i0, trivial, ?_⟩⟩
    rw [w_eq, w_ne _ _ (Or.inl (by decide)), e, nI_1, cl_nI (by omega)]
    exact hK hq
  · rcases Nat.lt_or_ge W 60 with g | g
    · exact absurd (nI_lt (b := 60) g (by decide)) q
    · omega
theorem x_keep (hS : St sh rf nx) (hN : N ≤ 8) (hR : RW mem 4 N f) (hK : ∀ mem', (∀ a, a ≠ 0 → (a < 23 ∨ 42 ≤ a) → mem' a = mem a) → (∀ k, k ≠ 5 → mem' 0 k = mem 0 k) → mem' 0 5 = 1 → RW mem' 23 N f → (∀ j, j < 3 → mem' 25 j = mem 6 j) → mem' 23 10 = -1000000005 → K (some (.int (nI N))) sh rf mem' nx) : ab_Cx l G ol (d + 3) mX_keep [.ref 0] sh rf mem nx K := by
  have i0 : ab_is sh nx 0 8 := is_of hS rfl rfl
  have i23 : ab_is sh nx 23 7 := is_of hS rfl rfl
  refine e_mX_keep ⟨i0, rd_of hS rfl rfl ⟨i0, rd_of hS rfl rfl ⟨i23, s_wbecome (d := d) hS w23 w4 (by decide) hN hR fun mem' hF hR' hc ha => ⟨rfl, i0, Or.inr rfl, i0, rd_of hS rfl rfl ⟨i23, trivial, ?_⟩⟩⟩⟩⟩
  rw [w_ne _ _ (Or.inl (by decide)), hR'.1.2.1]
  have o : ∀ a, a ≠ 0 → ab_w mem' 0 5 1 a = mem' a := fun a h => ab_w_ne _ _ _ h
  refine hK _ (fun a h0 h => by rw [o a h0]; exact hF a (by omega)) (fun k hk => by rw [w_ne _ _ (Or.inr hk), hF 0 (by omega)]) (w_eq _ _ _ _) (hR'.own (fun k => by rw [o _ (by decide)]) (fun i k hi hk => by rw [o _ (by omega)]) (fun i k hi hk => by rw [o _ (by omega)])) (fun j hj => by rw [o _ (by decide)]; exact hc j hj) (by rw [o _ (by decide)]; exact ha)
theorem x_back (hS : St sh rf nx) {N' : Nat} {g : Row} (hk : mem 0 5 = 0 ∨ (mem 0 5 = 1 ∧ N' ≤ 8 ∧ RW mem 23 N' g)) (hZ : mem 0 5 = 0 → K (some (.int (-1000000002))) sh rf mem nx) (hK : mem 0 5 = 1 → ∀ mem', (∀ a, (a < 4 ∨ 23 ≤ a) → mem' a = mem a) → RW mem' 4 N' g → (∀ j, j < 3 → mem' 6 j = mem 25 j) → mem' 4 10 = -1000000005 → K (some (.int (nI N'))) sh rf mem' nx) : ab_Cx l G ol (d + 3) mX_back [.ref 0] sh rf mem nx K := by
  have i0 : ab_is sh nx 0 8 := is_of hS rfl rfl
  have i4 : ab_is sh nx 4 7 := is_of hS rfl rfl
  refine e_mX_back ⟨i0, fun q => ?_, fun q => ⟨trivial, hZ q⟩⟩
  rcases hk with z | ⟨z, hN, hR⟩
  · exact absurd z q
  · refine ⟨i0, rd_of hS rfl rfl ⟨i0, rd_of hS rfl rfl ⟨i4, s_wbecome (d := d) hS w4 w23 (by decide) hN hR fun mem' hF hR' hc ha => ⟨rfl, i0, rd_of hS rfl rfl ⟨i4, trivial, ?_⟩⟩⟩⟩⟩
    rw [hR'.1.2.1]
    exact hK z mem' hF hR' hc ha
theorem x_textTold (hS : St sh rf nx) (hR : RW mem 4 N f) {T : Nat} (hT : T ≤ 14) (eT : f 6 = nI T) {kf pf : Nat → Int32} (hx : ∀ j, j < T → ∃ b, rf 2 j = some b ∧ ab_is sh nx b 5 ∧ mem b 0 = kf j ∧ mem b 1 = pf j) {p w : Int32} (hB : ¬ ((0 ≤ p ∧ p ≤ nI T - 1) ∧ (0 ≤ w ∧ w ≤ 1)) → K (some (.int (-1000000001))) sh rf mem nx) (hK : ∀ j, j < T → p = nI j → (0 ≤ w ∧ w ≤ 1) → K (some (.int (if w = 0 then kf j else pf j))) sh rf mem nx) : ab_Cx l G ol (d + 2) mX_textTold [.ref 0, .int p, .int w] sh rf mem nx K := by
  have i0 : ab_is sh nx 0 8 := is_of hS rfl rfl
  have i4 : ab_is sh nx 4 7 := is_of hS rfl rfl
  refine e_mX_textTold ⟨i0, rd_of hS rfl rfl ⟨i4, by decide, ?_⟩⟩
  rw [hR.1.2.2.2.2.2.2.2, eT]
  refine s_within ⟨_, rfl, br0 (fun h1 => ⟨by decide, s_within ⟨_, rfl, br1 (fun h2 => ?_) (fun h2 => ⟨trivial, hB fun z => h2 z.2⟩)⟩⟩) (fun h1 => ⟨trivial, hB fun z => h1 z.1⟩)⟩
  obtain ⟨j, hj, rfl⟩ := ix_of (by omega) h1
  obtain ⟨b, e1, e2, e3, e4⟩ := hx j hj
  have hkk := hK j hj rfl h2
  refine ⟨i0, rd_of hS rfl rfl ⟨is_of hS rfl rfl, rd_of hS rfl rfl ⟨is_of hS rfl rfl, in_of hS rfl rfl (vp_in_nI (by omega : j < 14) (by decide)), b, by rw [cl_nI (by omega)]; exact e1, fun q => ⟨e2, trivial, ?_⟩, fun q => ⟨e2, trivial, ?_⟩⟩⟩⟩
  · rw [if_neg q] at hkk; rw [e4]; exact hkk
  · rw [if_pos q] at hkk; rw [e3]; exact hkk
end XU
