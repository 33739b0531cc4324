/-! THE CLASS: deal, flat, standsOut, bentBy -/
/-- one more is dealt -/
def dl1 (N : Nat) (f : Row) : Row := comF (upd f 0 (drw (drw (drw (f 0))))) N (rem (dval (drw (f 0))) 6) (rem (dval (drw (drw (f 0)))) 60) (rem (dval (drw (drw (drw (f 0))))) 30)
def dlF (N : Nat) (f : Row) : Nat → Row
  | 0 => f
  | m + 1 => dl1 (N + m) (dlF N f m)
section XQ
variable {l : Launch} {G : ab_G} {ol : ab_Ol} {d : Nat} {sh : ab_S} {rf : ab_R} {nx : Nat} {K : ab_K} {mem : ab_N} {N : Nat} {f : Row}
theorem Fr.no3 {w : Nat} {m1 m2 : ab_N} (h : Fr w m1 m2) (h3 : m2 3 = m1 3) : ∀ a, (a < w ∨ w + 19 ≤ a) → m2 a = m1 a := fun a ha => by
  by_cases e : a = 3
  · rw [e]; exact h3
  · exact h.1 a ha e
set_option maxHeartbeats 4000000 in
theorem x_deal (hS : St sh rf nx) (hN : N ≤ 8) (hR : RW mem 4 N f) {n : Int32} (hB : ¬ (1 ≤ n ∧ n ≤ 8) → K (some (.int (-1000000001))) sh rf mem nx) (hK : ∀ k, 1 ≤ k → k ≤ 8 → n = nI k → ∀ mem', Fr 4 mem mem' → RW mem' 4 (N + min k (8 - N)) (dlF N f (min k (8 - N))) → K (some (.int (nI (min k (8 - N))))) sh rf mem' nx) : ab_Cx l G ol (d + 3) mX_deal [.ref 0, .int n] sh rf mem nx K := by
  have i0 : ab_is sh nx 0 8 := is_of hS rfl rfl
  have i4 : ab_is sh nx 4 7 := is_of hS rfl rfl
  refine e_mX_deal ⟨by decide, s_within ⟨_, rfl, br1 (fun q => ⟨i0, rd_of hS rfl rfl ⟨i4, by decide, s_min ⟨_, rfl, ?_⟩⟩⟩) (fun q => ⟨trivial, hB q⟩)⟩⟩
  obtain ⟨k, hk, rfl⟩ := rg_of (M := 8) (by omega) ⟨Int32.le_trans (by decide) q.1, q.2⟩
  have k1 : 1 ≤ k := (nI_leI (a := 1) (by omega) (by omega)).mp q.1
  have e : (if (8 : Int32) - mem 4 2 < nI k then (8 : Int32) - mem 4 2 else nI k) = nI (min k (8 - N)) := by
    rw [hR.1.2.1, show (8 : Int32) = nI 8 from rfl, pk_sub hN]
    by_cases z : nI (8 - N) < nI k
    · rw [if_pos z]
      have := (nI_ltI (by omega) (by omega)).mp z
      congr 1; omega
    · rw [if_neg z]
      have : k ≤ 8 - N := by
        rcases Nat.lt_or_ge (8 - N) k with g | g
        · exact absurd (nI_lt g (by omega)) z
        · exact g
      congr 1; omega
  rw [e]
  have hk := hK k k1 hk rfl
  generalize hM : min k (8 - N) = M at *
  have hM8 : N + M ≤ 8 := by omega
  suffices loop : ∀ r m, m + r = M → ∀ mem', Fr 4 mem mem' → RW mem' 4 (N + m) (dlF N f m) → ∀ u4 u5 u6, ab_Go l G ol (d + 2) mX_deal (ab_mc mX_deal) (ab_ms mX_deal) (fun r sh rf mem nx _ _ => K r sh rf mem nx) 30 [.ref 0, .int (nI k), .int (nI M), .int (nI m), u4, u5, u6] [] sh rf mem' nx 0 0 from loop M 0 (by omega) mem Fr.rfl hR _ _ _
  intro r
  induction r with
  | zero =>
    intro m hm mem' hF hR' u4 u5 u6
    have : m = M := by omega
    subst this
    exact h_mX_deal_30 ⟨fun _ => ⟨trivial, hk mem' hF hR'⟩, fun z => absurd (Int32.le_refl _) z⟩
  | succ r ih =>
    intro m hm mem' hF hR' u4 u5 u6
    refine h_mX_deal_30 ⟨fun z => absurd z (nI_ge (by omega) (by omega)), fun _ => ⟨i0, rd_of hS rfl rfl ⟨i4, s_draw (d := d + 1) hS w4 ⟨_, rfl, by decide, i0, rd_of hS rfl rfl ⟨i4, s_draw (d := d + 1) hS w4 ⟨_, rfl, by decide, i0, rd_of hS rfl rfl ⟨i4, s_draw (d := d + 1) hS w4 ⟨_, rfl, by decide, i0, rd_of hS rfl rfl ⟨i4, ?_⟩⟩⟩⟩⟩⟩⟩⟩⟩
    have e0 : mem' 4 7 = dlF N f m 0 := hR'.1.1
    rw [w_eq, w_eq, e0]
    have R3 := ((hR'.draw (drw (dlF N f m 0))).draw (drw (drw (dlF N f m 0)))).draw (drw (drw (drw (dlF N f m 0))))
    have eu : upd (upd (upd (dlF N f m) 0 (drw (dlF N f m 0))) 0 (drw (drw (dlF N f m 0)))) 0 (drw (drw (drw (dlF N f m 0)))) = upd (dlF N f m) 0 (drw (drw (drw (dlF N f m 0)))) := by
      funext j; unfold upd; by_cases h : j = 0 <;> simp [h]
    rw [eu] at R3
    refine s_comes (d := d) hS w4 (by omega) R3 fun mem3 F3 _ R3' => ⟨_, rfl, ?_⟩
    rw [nI_1]
    exact ih (m + 1) (by omega) mem3 ((((hF.trans (Fr.z7 (by decide))).trans (Fr.z7 (by decide))).trans (Fr.z7 (by decide))).trans F3) (by rw [show N + (m + 1) = N + m + 1 by omega]; exact R3') _ _ _
theorem x_flat (hS : St sh rf nx) (hN : N ≤ 8) (hR : RW mem 4 N f) {D : Nat} (hW : Wf N D f) (hD : D ≤ 9999) {o : Option (Row × Nat)} (hT : LW sh rf nx mem (mem 6 0) o) {n : Int32} (hB : ¬ (1 ≤ n ∧ n ≤ 60) → K (some (.int (-1000000001))) sh rf mem nx) (hZ : (1 ≤ n ∧ n ≤ 60) → N = 0 → K (some (.int (-1000000005))) sh rf mem nx) (hK : ∀ k, 1 ≤ k → k ≤ 60 → n = nI k → 0 < N → ∀ mem', FrT mem mem' → K (some (.int ((smF (pasF (ctO o) 8 N f k).1 4 N - smF f 4 N + nI (k * N) - 1) / nI (k * N)))) sh rf mem' nx) : ab_Cx l G ol (d + 6) mX_flat [.ref 0, .int n] sh rf mem nx K := by
  have i0 : ab_is sh nx 0 8 := is_of hS rfl rfl
  have i4 : ab_is sh nx 4 7 := is_of hS rfl rfl
  have i42 : ab_is sh nx 42 7 := is_of hS rfl rfl
  refine e_mX_flat ⟨by decide, s_within ⟨_, rfl, br1 (fun q => ⟨i0, rd_of hS rfl rfl ⟨i4, ?_⟩⟩) (fun q => ⟨trivial, hB q⟩)⟩⟩
  obtain ⟨k, hk, e⟩ := rg_of (M := 60) (by omega) ⟨Int32.le_trans (by decide) q.1, q.2⟩
  have k1 : 1 ≤ k := (nI_leI (a := 1) (by omega) (by omega)).mp (by rw [← e]; exact q.1)
  have em : n * mem 4 2 = nI (k * N) := by rw [hR.1.2.1, e, pk_mul]
  have kN : k * N ≤ 480 := Nat.mul_le_mul (by omega : k ≤ 60) hN
  rw [em]
  have NZ : nI (k * N) = 0 ↔ N = 0 := by
    rw [show (0 : Int32) = nI 0 from rfl, nI_eq (by omega) (by omega)]
    constructor
    · intro z; rcases Nat.mul_eq_zero.mp z with g | g <;> omega
    · intro z; rw [z, Nat.mul_zero]
  refine ⟨fun z => ⟨i0, rd_of hS rfl rfl ⟨i0, rd_of hS rfl rfl ⟨i42, s_think (d := d + 3) hS hN hR hT fun mem1 F1 _ R1 A1 T1 => ⟨rfl, i0, rd_of hS rfl rfl ⟨i42, ?_⟩⟩⟩⟩⟩, fun z => ⟨trivial, hZ q (NZ.mp z)⟩⟩
  rw [e]
  refine s_go (d := d) (o := o) hS w42 hN T1 R1 A1 hW (by omega) fun mem2 F2 R2 => ⟨_, rfl, i0, rd_of hS rfl rfl ⟨i42, s_claimedOfAll hS w42 hN R2 ⟨_, rfl, i0, rd_of hS rfl rfl ⟨i4, s_claimedOfAll hS w4 hN (hR.T (Or.inl rfl) hN (F1.trans (FrT.of F2))) ⟨_, rfl, z, trivial, ?_⟩⟩⟩⟩⟩
  exact hK k k1 hk e (Nat.pos_of_ne_zero fun g => z (NZ.mpr g)) mem2 (F1.trans (FrT.of F2))
set_option maxHeartbeats 4000000 in
theorem x_standsOut (hS : St sh rf nx) (hN : N ≤ 8) (hR : RW mem 4 N f) {D : Nat} (hW : Wf N D f) (hD : D ≤ 9999) {o : Option (Row × Nat)} (hT : LW sh rf nx mem (mem 6 0) o) {t n : Int32} (hB : ¬ ((0 ≤ t ∧ t ≤ nI N - 1) ∧ (1 ≤ n ∧ n ≤ 60)) → K (some (.int (-1000000001))) sh rf mem nx) (hK : ∀ i k, i < N → 1 ≤ k → k ≤ 60 → t = nI i → n = nI k → ∀ mem', FrT mem mem' → K (some (.int (soF (ctO o) N f i k))) sh rf mem' nx) : ab_Cx l G ol (d + 6) mX_standsOut [.ref 0, .int t, .int n] sh rf mem nx K := by
  have i0 : ab_is sh nx 0 8 := is_of hS rfl rfl
  have i42 : ab_is sh nx 42 7 := is_of hS rfl rfl
  refine e_mX_standsOut ⟨i0, s_isT hS hR ⟨_, rfl, br0 (fun h => ⟨by decide, s_within ⟨_, rfl, br1 (fun q => ⟨i0, rd_of hS rfl rfl ⟨i0, rd_of hS rfl rfl ⟨i42, s_think (d := d + 3) hS hN hR hT fun mem1 F1 _ R1 A1 T1 => ⟨rfl, ?_⟩⟩⟩⟩) (fun q => ⟨trivial, hB fun z => q z.2⟩)⟩⟩) (fun h => ⟨trivial, hB fun z => h z.1⟩)⟩⟩
  obtain ⟨i, hi, rfl⟩ := ix_of (by omega) h
  obtain ⟨k, hk, rfl⟩ := rg_of (M := 60) (by omega) ⟨Int32.le_trans (by decide) q.1, q.2⟩
  have k1 : 1 ≤ k := (nI_leI (a := 1) (by omega) (by omega)).mp q.1
  suffices loop : ∀ r m, m + r = k → ∀ mem', FrT mem mem' → RW mem' 42 N (pasF (ctO o) 8 N f m).1 → mem' 42 10 = absV 8 → LW sh rf nx mem' (mem' 44 0) o → ab_Go l G ol (d + 5) mX_standsOut (ab_mc mX_standsOut) (ab_ms mX_standsOut) (fun r sh rf mem nx _ _ => K r sh rf mem nx) 37 [.ref 0, .int (nI i), .int (nI k), .int (soF (ctO o) N f i m), .int (nI m)] [] sh rf mem' nx 0 0 from loop k 0 (by omega) mem1 F1 (by rw [pasF_0]; exact R1) A1 T1
  intro r
  induction r with
  | zero =>
    intro m hm mem' hF R' A' T'
    have : m = k := by omega
    subst this
    exact h_mX_standsOut_37 ⟨fun _ => ⟨trivial, hK i m hi k1 hk rfl rfl mem' hF⟩, fun z => absurd (Int32.le_refl _) z⟩
  | succ r ih =>
    intro m hm mem' hF R' A' T'
    refine h_mX_standsOut_37 ⟨fun z => absurd z (nI_ge (by omega) (by omega)), fun _ => ⟨i0, rd_of hS rfl rfl ⟨i42, ?_⟩⟩⟩
    refine s_go (d := d) (o := o) (n := 1) (D := D + m) hS w42 hN T' R' A' (hW.pass (ctO_rg o) m (by omega)).1 (by omega) fun mem2 F2 R2 => ⟨_, rfl, i0, rd_of hS rfl rfl ⟨i42, ?_⟩⟩
    rw [pas_1] at R2
    have A2 : mem2 42 10 = absV 8 := by rw [F2.2.2]; exact A'
    have T2 : LW sh rf nx mem2 (mem2 44 0) o := by
      rw [show mem2 44 = mem' 44 from F2.2.1]
      exact T'.mono fun a ha => F2.1 a (by omega) (by omega)
    refine s_standsAlone hS w42 hN hi R2 (fun ha => ⟨_, rfl, fun z => absurd z (by decide), fun _ => ?_⟩) (fun ha => ⟨_, rfl, fun _ => ?_, fun z => absurd rfl z⟩)
    · rw [nI_1]
      have := ih (m + 1) (by omega) mem2 (hF.trans (FrT.of F2)) R2 A2 T2
      rw [soF, show alI (pasF (ctO o) 8 N f (m + 1)).1 N i = 1 by unfold alI; exact if_pos ha] at this
      exact this
    · rw [nI_1]
      have := ih (m + 1) (by omega) mem2 (hF.trans (FrT.of F2)) R2 A2 T2
      rw [soF, show alI (pasF (ctO o) 8 N f (m + 1)).1 N i = 0 by unfold alI; exact if_neg ha, Int32.add_zero] at this
      exact this
/-- a sheet's cell -/
def shC (i : Nat) : Nat := 68 + 2 * i
theorem sh_rd {i : Nat} (hi : i < 4) : Rd (shC i) := by
  have : ∀ i, i < 4 → (shS (shC i)).1 = 3 ∧ shC i < 126 := by decide +kernel
  exact this i hi
theorem sh_acc (hS : St sh rf nx) {i : Nat} (hi : i < 4) {C : Nat → Prop} (hk : C (shC i)) : ab_rd (rf 0 9) fun b => ab_is sh nx b 23 ∧ vp_in (nI i) (sh b).2 ∧ ab_rd (rf b (Int32.toNatClampNeg (nI i))) C := by
  refine rd_of hS rfl rfl ⟨is_of hS rfl rfl, in_of hS rfl rfl (vp_in_nI hi (by decide)), ?_⟩
  rw [cl_nI (by omega)]
  have : ∀ i, i < 4 → rfS 65 i = some (shC i) := by decide +kernel
  exact rd_of hS rfl (this i hi) hk
theorem s_isNumber (hS : St sh rf nx) {r j : Nat} (hr : Rd r) (hj : j < 24) (h : K (some (.int (if mem (r + 1) j ≠ -1000000005 then 1 else 0))) sh rf mem nx) : ab_Cx l G ol (d + 1) mRo_isNumber [.ref r, .int (nI j)] sh rf mem nx K := by
  refine e_mRo_isNumber ⟨rd_is hS hr, rd_rd hS hr ⟨rd_is1 hS hr, rd_in hS hr (vp_in_nI hj (by decide)), ?_⟩⟩
  rw [cl_nI (by omega)]
  refine ⟨fun q => ⟨Or.inl rfl, ?_⟩, fun q => ⟨Or.inr rfl, ?_⟩⟩
  · rw [if_neg (fun z => z q)] at h; exact h
  · rw [if_pos q] at h; exact h
set_option maxHeartbeats 4000000 in
theorem s_diff (hS : St sh rf nx) (hN : N ≤ 8) (hR : RW mem 4 N f) {D : Nat} (hW : Wf N D f) (hD : D ≤ 9999) {o : Option (Row × Nat)} (hT : LW sh rf nx mem (mem 6 0) o) {r t a sz : Nat} (hr : Rd r) (hr2 : r < 42 ∨ 62 ≤ r) (ht : t < N) (ha : a ≤ 99) (hz : sz ≤ 24) (hs : mem r 1 = nI sz) (h : ∀ mem', FrT mem mem' → mem' 61 = mem 61 → K (some (.int (dfS (ctO o) N t (upd f (tI t 2) (nI a)) (mem (r + 1)) sz))) sh rf mem' nx) : ab_Cx l G ol (d + 6) mX_differencesBy [.ref 0, .ref r, .int (nI t), .int (nI a)] sh rf mem nx K := by
  have i0 : ab_is sh nx 0 8 := is_of hS rfl rfl
  have i42 : ab_is sh nx 42 7 := is_of hS rfl rfl
  have ht8 : t < 8 := by omega
  have itt := td_is hS (wd_td w42 ht8)
  have hr1 : r ≠ 41 := by
    intro e; subst e; exact absurd hr.1 (by decide)
  have hr3 : r ≠ 3 ∧ r ≠ 2 := by
    constructor
    · intro e; subst e; exact absurd hr.1 (by decide)
    · intro e; subst e; exact absurd hr.1 (by decide)
  refine e_mX_differencesBy ⟨i0, rd_of hS rfl rfl ⟨i0, rd_of hS rfl rfl ⟨i42, s_think (d := d + 3) hS hN hR hT fun mem1 F1 L1 R1 A1 T1 => ⟨rfl, i0, rd_of hS rfl rfl ⟨i42, wd_acc hS w42 ht8 ⟨itt, ?_⟩⟩⟩⟩⟩⟩
  have hW' : Wf N D (upd f (tI t 2) (nI a)) := hW.tr (Or.inr (Or.inr ⟨rfl, a, ha, rfl⟩))
  have R1' := R1.put ht (k := 2) (by decide) (nI a)
  have F1' : FrT mem (ab_w mem1 (42 + 3 + 2 * t) 2 (nI a)) := F1.trans (FrT.w (by omega))
  have A1' : ab_w mem1 (42 + 3 + 2 * t) 2 (nI a) 42 10 = absV 8 := by rw [w_ne _ _ (Or.inl (by omega))]; exact A1
  have T1' : LW sh rf nx (ab_w mem1 (42 + 3 + 2 * t) 2 (nI a)) (ab_w mem1 (42 + 3 + 2 * t) 2 (nI a) 44 0) o := by
    rw [w_ne _ _ (Or.inl (by omega))]; exact T1.mono fun q hq => ab_w_ne _ _ _ (by omega)
  have L1' : ab_w mem1 (42 + 3 + 2 * t) 2 (nI a) 61 = mem 61 := by rw [ab_w_ne _ _ _ (by omega)]; exact L1
  generalize ab_w mem1 (42 + 3 + 2 * t) 2 (nI a) = m0 at *
  generalize hg : upd f (tI t 2) (nI a) = g at *
  suffices loop : ∀ q k, k + q = sz → ∀ mem', FrT mem mem' → mem' 61 = mem 61 → RW mem' 42 N (pasF (ctO o) 8 N g (k - 1)).1 → mem' 42 10 = absV 8 → LW sh rf nx mem' (mem' 44 0) o → ab_Go l G ol (d + 5) mX_differencesBy (ab_mc mX_differencesBy) (ab_ms mX_differencesBy) (fun r sh rf mem nx _ _ => K r sh rf mem nx) 34 [.ref 0, .ref r, .int (nI t), .int (nI a), .ref (42 + 3 + 2 * t), .int (dfS (ctO o) N t g (mem (r + 1)) k), .int (nI k)] [] sh rf mem' nx 0 0 from loop sz 0 (by omega) m0 F1' L1' (by rw [pasF_0]; exact R1') A1' T1'
  intro q
  induction q with
  | zero =>
    intro k hk mem' hF hL R' A' T'
    have : k = sz := by omega
    subst this
    have es : mem' r 1 = nI k := by rw [hF r (by omega) (by omega)]; exact hs
    refine h_mX_differencesBy_34 ⟨rd_is hS hr, ?_⟩
    rw [es]
    exact ⟨fun _ => ⟨trivial, h mem' hF hL⟩, fun z => absurd (Int32.le_refl _) z⟩
  | succ q ih =>
    intro k hk mem' hF hL R' A' T'
    have es : mem' r 1 = nI sz := by rw [hF r (by omega) (by omega)]; exact hs
    refine h_mX_differencesBy_34 ⟨rd_is hS hr, ?_⟩
    rw [es]
    -- behind the day
    have rest : ∀ mem2, FrT mem mem2 → mem2 61 = mem 61 → RW mem2 42 N (pasF (ctO o) 8 N g k).1 → mem2 42 10 = absV 8 → LW sh rf nx mem2 (mem2 44 0) o → ∃ x1, some (Value.int (if mem2 (r + 1) k ≠ -1000000005 then 1 else 0)) = some (Value.int x1) ∧ ((x1 = 0 → ab_Go l G ol (d + 5) mX_differencesBy (ab_mc mX_differencesBy) (ab_ms mX_differencesBy) (fun r sh rf mem nx _ _ => K r sh rf mem nx) 34 [.ref 0, .ref r, .int (nI t), .int (nI a), .ref (42 + 3 + 2 * t), .int (dfS (ctO o) N t g (mem (r + 1)) k), .int (nI k + 1)] [] sh rf mem2 nx 0 0) ∧ (¬ x1 = 0 → ab_is sh nx (42 + 3 + 2 * t) 6 ∧ (ab_is sh nx r 3 ∧ (ab_rd (rf r 2) fun b2 => ab_is sh nx b2 10 ∧ vp_in (nI k) (sh b2).2 ∧ (1 ≤ 2 ∧ ab_Cx l G ol (d + 5) mMa_abs [.int ((mem2 (42 + 3 + 2 * t) 4) - (mem2 b2 (Int32.toNatClampNeg (nI k))))] sh rf mem2 nx (fun r3 sh3 rf3 mem3 nx3 => ∃ x3, r3 = some (.int x3) ∧ (ab_Go l G ol (d + 5) mX_differencesBy (ab_mc mX_differencesBy) (ab_ms mX_differencesBy) (fun r sh rf mem nx _ _ => K r sh rf mem nx) 34 [.ref 0, .ref r, .int (nI t), .int (nI a), .ref (42 + 3 + 2 * t), .int (dfS (ctO o) N t g (mem (r + 1)) k + x3), .int (nI k + 1)] [] sh3 rf3 mem3 nx3 0 0)))))) ) := by
      intro mem2 F2 L2 R2 A2 T2
      have ep : mem2 (r + 1) = mem (r + 1) := F2 (r + 1) (by omega) (by omega)
      have nxt := ih (k + 1) (by omega) mem2 F2 L2 (by rw [show k + 1 - 1 = k by omega]; exact R2) A2 T2
      rw [dfS] at nxt
      refine ⟨_, rfl, br0 (fun z => ⟨itt, rd_is hS hr, rd_rd hS hr ⟨rd_is1 hS hr, rd_in hS hr (vp_in_nI (by omega) (by decide)), by decide, s_abs (d := d + 4) ⟨_, rfl, ?_⟩⟩⟩) (fun z => ?_)⟩
      · rw [cl_nI (by omega), R2.2.1 t 4 ht (by decide), nI_1, ep]
        rw [if_neg (by rw [← ep]; exact z)] at nxt
        exact nxt
      · have z : mem2 (r + 1) k = -1000000005 := Classical.byContradiction z
        rw [if_pos (by rw [← ep]; exact z), Int32.add_zero] at nxt
        rw [nI_1]; exact nxt
    refine ⟨fun z => absurd z (nI_ge (by omega) (by omega)), fun _ => ⟨fun z => ⟨rd_is hS hr, s_isNumber (d := d + 4) hS hr (by omega) ?_⟩, fun z => ⟨i0, rd_of hS rfl rfl ⟨i42, ?_⟩⟩⟩⟩
    · have k0 : k = 0 := by
        rcases Nat.eq_zero_or_pos k with g | g
        · exact g
        · exact absurd z (nI_ge (a := 0) g (by omega))
      exact rest mem' hF hL (by rw [k0] at R' ⊢; exact R') A' T'
    · have k0 : 0 < k := by
        rcases Nat.eq_zero_or_pos k with g | g
        · exact absurd (by rw [g]; decide) z
        · exact g
      refine s_go (d := d) (o := o) (n := 1) (D := D + (k - 1)) hS w42 hN T' R' A' (hW'.pass (ctO_rg o) (k - 1) (by omega)).1 (by omega) fun mem2 F2 R2 => ⟨_, rfl, rd_is hS hr, s_isNumber (d := d + 4) hS hr (by omega) ?_⟩
      rw [pas_1, show k - 1 + 1 = k by omega] at R2
      refine rest mem2 (hF.trans (FrT.of F2)) (by rw [F2.1 61 (by omega) (by decide)]; exact hL) R2 (by rw [F2.2.2]; exact A') ?_
      rw [show mem2 44 = mem' 44 from F2.2.1]
      exact T'.mono fun a ha => F2.1 a (by omega) (by omega)
set_option maxHeartbeats 4000000 in
theorem x_bentBy (hS : St sh rf nx) (hN : N ≤ 8) (hR : RW mem 4 N f) {D : Nat} (hW : Wf N D f) (hD : D ≤ 9999) {o : Option (Row × Nat)} (hT : LW sh rf nx mem (mem 6 0) o) (hz : ∀ i, i < 4 → ∃ z, z ≤ 24 ∧ mem (shC i) 1 = nI z) {s t w : Int32} (hB : ¬ ((0 ≤ s ∧ s ≤ 3) ∧ (0 ≤ t ∧ t ≤ nI N - 1) ∧ (0 ≤ w ∧ w ≤ 1)) → K (some (.int (-1000000001))) sh rf mem nx) (hZ : ∀ i, (0 ≤ t ∧ t ≤ nI N - 1) ∧ (0 ≤ w ∧ w ≤ 1) → i < 4 → s = nI i → mem (shC i) 0 = -1 → K (some (.int (-1000000011))) sh rf mem nx) (hK : ∀ i j z, i < 4 → j < N → z ≤ 24 → mem (shC i) 1 = nI z → s = nI i → t = nI j → (0 ≤ w ∧ w ≤ 1) → ¬ mem (shC i) 0 = -1 → ∀ mem', FrT mem mem' → K (some (.int (leA (lea (vBent (ctO o) N f j z (mem (shC i + 1))) 0 41) w))) sh rf mem' nx) : ab_Cx l G ol (d + 7) mX_bentBy [.ref 0, .int s, .int t, .int w] sh rf mem nx K := by
  have i0 : ab_is sh nx 0 8 := is_of hS rfl rfl
  have i61 : ab_is sh nx 61 1 := is_of hS rfl rfl
  refine e_mX_bentBy ⟨by decide, s_isSheet ⟨_, rfl, br0 (fun h1 => ⟨i0, s_isT hS hR ⟨_, rfl, br0 (fun h2 => ⟨by decide, s_within ⟨_, rfl, br1 (fun h3 => ?_) (fun h3 => ⟨trivial, hB fun z => h3 z.2.2⟩)⟩⟩) (fun h2 => ⟨trivial, hB fun z => h2 z.2.1⟩)⟩⟩) (fun h1 => ⟨trivial, hB fun z => h1 z.1⟩)⟩⟩
  obtain ⟨i, hi, rfl⟩ := rg_of (M := 3) (by omega) h1
  have hi4 : i < 4 := by omega
  have hr := sh_rd hi4
  refine ⟨i0, sh_acc hS hi4 ⟨rd_is hS hr, fun q => ⟨i0, rd_of hS rfl rfl ⟨i61, s_lbegin hS ⟨rfl, ?_⟩⟩⟩, fun q => ⟨trivial, hZ i ⟨h2, h3⟩ hi4 rfl q⟩⟩⟩
  obtain ⟨j, hj, rfl⟩ := ix_of (by omega) h2
  obtain ⟨z, hz24, ez⟩ := hz i hi4
  have hr2 : shC i < 42 ∨ 62 ≤ shC i := by unfold shC; omega
  suffices loop : ∀ r m, m + r = 41 → ∀ mem', FrT mem mem' → LeR mem' (lea (vBent (ctO o) N f j z (mem (shC i + 1))) 0 m) → ab_Go l G ol (d + 6) mX_bentBy (ab_mc mX_bentBy) (ab_ms mX_bentBy) (fun r sh rf mem nx _ _ => K r sh rf mem nx) 53 [.ref 0, .int (nI i), .int (nI j), .int w, .int (nI m)] [] sh rf mem' nx 0 0 from loop 41 0 rfl _ (FrT.w (by omega)) (w_eq _ _ _ _)
  intro r
  induction r with
  | zero =>
    intro m hm mem' hF hL
    have : m = 41 := by omega
    subst this
    obtain ⟨p, ep⟩ := lea_some (vBent (ctO o) N f j z (mem (shC i + 1))) 0 41 (by decide)
    have hk := hK i j z hi4 hj hz24 ez rfl rfl h3 q mem' hF
    rw [ep] at hL
    refine h_mX_bentBy_53 ⟨fun _ => ⟨fun c => ⟨i0, rd_of hS rfl rfl ⟨i61, trivial, ?_⟩⟩, fun c => ⟨i0, rd_of hS rfl rfl ⟨i61, trivial, ?_⟩⟩⟩, fun z => absurd (by decide) z⟩
    · rw [leA_1 ep c] at hk; rw [hL.2.2]; exact hk
    · rw [leA_0 ep c] at hk; rw [hL.2.1]; exact hk
  | succ r ih =>
    intro m hm mem' hF hL
    have e1 : mem' (shC i) = mem (shC i) := hF _ (by unfold shC; omega) hr2
    have e2 : mem' (shC i + 1) = mem (shC i + 1) := hF _ (by unfold shC; omega) (by unfold shC; omega)
    refine h_mX_bentBy_53 ⟨fun z => absurd z (nI_nlt (a := 40) (by omega) (by omega)), fun _ => ⟨i0, rd_of hS rfl rfl ⟨i0, sh_acc hS hi4 ⟨i0, s_diff (d := d) hS hN (hR.T (Or.inl rfl) hN hF) hW hD (hT.T hF) hr hr2 hj (by omega) hz24 (by rw [e1]; exact ez) fun mem2 F2 L2 => ⟨_, rfl, i61, ?_⟩⟩⟩⟩⟩
    have L2' : LeR mem2 (lea (vBent (ctO o) N f j z (mem (shC i + 1))) 0 m) := by
      unfold LeR at *
      rw [L2]; exact hL
    refine s_offer (d := d + 5) hS (v := vBent (ctO o) N f j z (mem (shC i + 1))) (a := 0) (m := m) (by rw [Nat.zero_add]) (by rw [Nat.zero_add, e2]; rfl) L2' fun mem3 F3 L3 => ⟨rfl, ?_⟩
    rw [nI_1]
    exact ih (m + 1) (by omega) mem3 ((hF.trans F2).trans fun a _ ha => F3 a (by omega)) L3
end XQ
