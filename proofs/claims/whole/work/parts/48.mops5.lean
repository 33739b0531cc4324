/-! THE REFERENCE: copy, lay, check -/
section MI
variable {l : Launch} {G : ab_G} {ol : ab_Ol} {d : Nat} {sh : ab_S} {rf : ab_R} {mem : ab_N} {nx : Nat} {K : ab_K} {N : Nat} {f : Row}
theorem hasP_iff {z b : Nat} (hz : z ≤ 24) {p : Int32} (hp : ¬ p < 0) (hb : b < 2 ^ 31) : (¬ nI z - nI b < p) ↔ hasP z p (nI b) := by
  obtain ⟨a, ha, rfl⟩ := nI_of hp
  have e : (nI z - nI b).toInt = (z : Int) - b := by
    rw [Int32.toInt_sub, nI_toInt (by omega), nI_toInt hb]
    exact Int.bmod_eq_of_le (by omega) (by omega)
  rw [Int32.lt_iff_toInt_lt, e, nI_toInt ha]
  constructor
  · intro h
    exact ⟨a, b, rfl, rfl, by omega, ha, hb⟩
  · rintro ⟨a', b', e1, e2, h1, h2, h3⟩
    have : a = a' := (nI_eq ha h2).mp e1
    have : b = b' := (nI_eq hb h3).mp e2
    omega
set_option maxHeartbeats 2000000 in
theorem m_copy (hS : St sh rf nx) (hz : ∀ i, i < 4 → ∃ z, z ≤ 24 ∧ mem 118 i = nI z) (hso : ∀ i, i < 4 → mem 117 i = -1 ∨ 0 ≤ mem 117 i) {s p t a m : Int32} (hB : ¬ ((0 ≤ s ∧ s ≤ 3) ∧ (0 ≤ t ∧ t ≤ 3)) → K (some (.int (-1000000001))) sh rf mem nx) (hK : ∀ i j zi zj, i < 4 → j < 4 → s = nI i → t = nI j → zi ≤ 24 → zj ≤ 24 → mem 118 i = nI zi → mem 118 j = nI zj → ((mem 117 i = -1 ∨ mem 117 j = -1) → K (some (.int (-1000000011))) sh rf mem nx) ∧ (¬ mem 117 i = -1 → ¬ mem 117 j = -1 → ((¬ mem 117 i = mem 117 j) → K (some (.int (-1000000012))) sh rf mem nx) ∧ (mem 117 i = mem 117 j → (¬ (hasP zi p m ∧ hasP zj a m) → K (some (.int (-1000000013))) sh rf mem nx) ∧ (∀ P A M, p = nI P → a = nI A → m = nI M → P + M ≤ zi → A + M ≤ zj → ∀ mem' : ab_N, (∀ q, q ≠ 119 → q ≠ 124 → mem' q = mem q) → (∀ k, mem' 119 k = if 24 * j + A ≤ k ∧ k < 24 * j + A + M then mem 119 (24 * i + P + (k - (24 * j + A))) else mem 119 k) → K (some (.int m)) sh rf mem' nx)))) : ab_Cx l G ol (d + 3) mM_copy [.ref 101, .int s, .int p, .int t, .int a, .int m] sh rf mem nx K := by
  refine e_mM_copy ⟨by decide, m_isSheet ⟨_, rfl, br0 (fun q => ⟨by decide, m_isSheet ⟨_, rfl, br1 (fun q2 => ?_) (fun q2 => ⟨trivial, hB fun z => q2 z.2⟩)⟩⟩) (fun q => ⟨trivial, hB fun z => q z.1⟩)⟩⟩
  obtain ⟨i, hi, rfl⟩ := rg_of (M := 3) (by omega) q
  obtain ⟨j, hj, rfl⟩ := rg_of (M := 3) (by omega) q2
  have hi4 : i < 4 := by omega
  have hj4 : j < 4 := by omega
  have ci : Int32.toNatClampNeg (nI i) = i := cl_nI (by omega)
  have cj : Int32.toNatClampNeg (nI j) = j := cl_nI (by omega)
  have vi : vp_in (nI i) 4 := vp_in_nI hi4 (by decide)
  have vj : vp_in (nI j) 4 := vp_in_nI hj4 (by decide)
  obtain ⟨zi, hzi, ezi⟩ := hz i hi4
  obtain ⟨zj, hzj, ezj⟩ := hz j hj4
  have hk := hK i j zi zj hi4 hj4 rfl rfl hzi hzj ezi ezj
  have n1 : ∀ x, x < 4 → 0 ≤ mem 117 x → ¬ mem 117 x = -1 := fun x _ h e => absurd h (by rw [e]; decide)
  rw [ci, cj]
  refine ⟨m9 hS, ma hS rfl rfl rfl vi ⟨fun y => ⟨trivial, hk.1 (Or.inl ((hso i hi4).resolve_right (Int32.not_le.mpr y)))⟩, fun y => ⟨m9 hS, ma hS rfl rfl rfl vj ⟨fun y2 => ⟨m9 hS, ma hS rfl rfl rfl vi ⟨m9 hS, ma hS rfl rfl rfl vj ⟨fun y3 => ?_, fun y3 => ⟨trivial, (hk.2 (n1 i hi4 (Int32.not_lt.mp y)) (n1 j hj4 y2)).1 y3⟩⟩⟩⟩, fun y2 => ⟨trivial, hk.1 (Or.inr ((hso j hj4).resolve_right y2))⟩⟩⟩⟩⟩
  have hk2 := (hk.2 (n1 i hi4 (Int32.not_lt.mp y)) (n1 j hj4 y2)).2 y3
  clear hK hk
  have bad : ¬ (hasP zi p m ∧ hasP zj a m) → True ∧ K (some (.int (-1000000013))) sh rf mem nx := fun z => ⟨trivial, hk2.1 z⟩
  refine ⟨fun c => bad fun z => ?_, fun c => ⟨fun c2 => bad fun z => ?_, fun c2 => ⟨fun c3 => bad fun z => ?_, fun c3 => ⟨m9 hS, ma hS rfl rfl rfl vi ?_⟩⟩⟩⟩
  · obtain ⟨A, B, e1, e2, h1, h2, h3⟩ := z.1
    rw [e1] at c; exact absurd c (nI_pos h2)
  · obtain ⟨A, B, e1, e2, h1, h2, h3⟩ := z.2
    rw [e1] at c2; exact absurd c2 (nI_pos h2)
  · obtain ⟨A, B, e1, e2, h1, h2, h3⟩ := z.1
    rw [e2] at c3; exact absurd c3 (nI_pos h3)
  · obtain ⟨M, hM, rfl⟩ := nI_of c3
    rw [ezi]
    refine ⟨fun y4 => bad fun z => absurd y4 ((hasP_iff hzi c hM).mpr z.1), fun y4 => ⟨m9 hS, ma hS rfl rfl rfl vj ?_⟩⟩
    rw [ezj]
    refine ⟨fun y5 => ?_, fun y5 => bad fun z => y5 (Int32.not_lt.mp ((hasP_iff hzj c2 hM).mpr z.2))⟩
    obtain ⟨P, M1, rfl, e2, h1, h2, h3⟩ := (hasP_iff hzi c hM).mp y4
    obtain ⟨A, M2, rfl, e4, h4, h5, h6⟩ := (hasP_iff hzj c2 hM).mp (Int32.not_lt.mpr y5)
    have : M1 = M := ((nI_eq hM h3).mp e2).symm
    subst this
    have : M2 = M1 := ((nI_eq hM h6).mp e4).symm
    subst this
    have hfin := hk2.2 P A M2 rfl rfl rfl h1 h4
    clear hk2 bad
    have i124 : ab_is sh nx 124 10 := is_of hS rfl rfl
    have i119 : ab_is sh nx 119 10 := is_of hS rfl rfl
    suffices loop1 : ∀ r k, k + r = M2 → ∀ mem' : ab_N, (∀ q, q ≠ 124 → mem' q = mem q) → (∀ x, x < k → mem' 124 x = mem 119 (24 * i + P + x)) → ab_Go l G ol (d + 2) mM_copy (ab_mc mM_copy) (ab_ms mM_copy) (fun r sh rf mem nx _ _ => K r sh rf mem nx) 104 [.ref 101, .int (nI i), .int (nI P), .int (nI j), .int (nI A), .int (nI M2), .int (nI k)] [] sh rf mem' nx 0 0 from loop1 M2 0 (by omega) mem (fun _ _ => rfl) (fun x q => by omega)
    intro r
    induction r with
    | zero =>
      intro k hk mem1 F1 E1
      have : k = M2 := by omega
      subst this
      refine h_mM_copy_104 ⟨fun _ => ?_, fun z => absurd (Int32.le_refl _) z⟩
      suffices loop2 : ∀ r x, x + r = k → ∀ mem' : ab_N, (∀ q, q ≠ 119 → mem' q = mem1 q) → (∀ y, mem' 119 y = if 24 * j + A ≤ y ∧ y < 24 * j + A + x then mem 119 (24 * i + P + (y - (24 * j + A))) else mem 119 y) → ab_Go l G ol (d + 2) mM_copy (ab_mc mM_copy) (ab_ms mM_copy) (fun r sh rf mem nx _ _ => K r sh rf mem nx) 141 [.ref 101, .int (nI i), .int (nI P), .int (nI j), .int (nI A), .int (nI k), .int (nI x)] [] sh rf mem' nx 0 0 from loop2 k 0 (by omega) mem1 (fun _ _ => rfl) (fun y => by rw [if_neg (by omega), F1 119 (by decide)])
      intro r
      induction r with
      | zero =>
        intro x hx mem2 F2 E2
        have : x = k := by omega
        subst this
        exact h_mM_copy_141 ⟨fun _ => ⟨trivial, hfin mem2 (fun q q1 q2 => by rw [F2 q q1, F1 q q2]) E2⟩, fun z => absurd (Int32.le_refl _) z⟩
      | succ r ih =>
        intro x hx mem2 F2 E2
        refine h_mM_copy_141 ⟨fun z => absurd z (nI_ge (by omega) (by omega)), fun _ => ?_⟩
        rw [c24, nI_add]
        refine ⟨m9 hS, rd_of hS rfl rfl ⟨m9 hS, ma hS rfl rfl rfl (vp_in_nI (by omega) (by decide)) ⟨i119, in_of hS rfl rfl (vp_in_nI (by omega : 24 * j + A + x < 96) (by decide)), ?_⟩⟩⟩
        rw [cl_nI (by omega), cl_nI (by omega), nI_1, F2 124 (by decide), E1 x (by omega)]
        refine ih (x + 1) (by omega) _ (fun q hq => by rw [ab_w_ne _ _ _ hq]; exact F2 q hq) (fun y => ?_)
        by_cases e : y = 24 * j + A + x
        · subst e
          rw [w_eq, if_pos (by omega)]
          congr 1; omega
        · rw [w_ne _ _ (Or.inr e), E2]
          by_cases c : 24 * j + A ≤ y ∧ y < 24 * j + A + x
          · rw [if_pos c, if_pos (by omega)]
          · rw [if_neg c, if_neg (by omega)]
    | succ r ih =>
      intro k hk mem1 F1 E1
      refine h_mM_copy_104 ⟨fun z => absurd z (nI_ge (by omega) (by omega)), fun _ => ?_⟩
      rw [c24, nI_add]
      refine ⟨m9 hS, rd_of hS rfl rfl ⟨m9 hS, ma hS rfl rfl rfl (vp_in_nI (by omega) (by decide)) ⟨i124, in_of hS rfl rfl (vp_in_nI (by omega : k < 24) (by decide)), ?_⟩⟩⟩
      rw [cl_nI (by omega), cl_nI (by omega), nI_1, F1 119 (by decide)]
      refine ih (k + 1) (by omega) _ (fun q hq => by rw [ab_w_ne _ _ _ hq]; exact F1 q hq) (fun x hx => ?_)
      by_cases e : x = k
      · subst e; rw [w_eq]
      · rw [w_ne _ _ (Or.inr e)]; exact E1 x (by omega)
/-- what lay leaves in the reference's rows of slots -/
def LyR (m0 mem : ab_N) (i : Nat) (w A B : Int32) : Prop := (∀ a, a ≠ 120 → a ≠ 121 → a ≠ 122 → a ≠ 123 → mem a = m0 a) ∧ mem 120 = upd (m0 120) i w ∧ mem 121 = upd (m0 121) i A ∧ mem 122 = upd (m0 122) i B
theorem LyR.of {m0 : ab_N} {i : Nat} {w A B : Int32} : LyR m0 (ab_w (ab_w (ab_w m0 120 i w) 121 i A) 122 i B) i w A B := by
  refine ⟨fun a a1 a2 a3 _ => by rw [ab_w_ne _ _ _ a3, ab_w_ne _ _ _ a2, ab_w_ne _ _ _ a1], ?_, ?_, ?_⟩
  · rw [ab_w_ne _ _ _ (by decide), ab_w_ne _ _ _ (by decide), ab_w_self]
  · rw [ab_w_ne _ _ _ (by decide), ab_w_self, ab_w_ne _ _ _ (by decide)]
  · rw [ab_w_self, ab_w_ne _ _ _ (by decide), ab_w_ne _ _ _ (by decide)]
set_option maxHeartbeats 4000000 in
theorem m_lay (hS : St sh rf nx) (hN : N ≤ 8) (hf : mem 102 = f) (h1 : f 1 = nI N) (hso : ∀ i, i < 4 → mem 117 i = -1 ∨ 0 ≤ mem 117 i) {s w k : Int32} (hB : ¬ ((0 ≤ s ∧ s ≤ 4) ∧ (0 ≤ w ∧ w ≤ 3) ∧ (w = 1 → 0 ≤ k ∧ k ≤ nI N - 1) ∧ (w = 2 → 0 ≤ k ∧ k ≤ 3)) → K (some (.int (-1000000001))) sh rf mem nx)
    (hZ : ∀ i j, i < 5 → j < 4 → s = nI i → w = 2 → k = nI j → mem 117 j = -1 → K (some (.int (-1000000011))) sh rf mem nx)
    (h0 : ∀ i, i < 5 → s = nI i → w = 0 ∨ w = 3 → ∀ mem', LyR mem mem' i w k 0 → mem' 123 = mem 123 → K (some (.int (mem 120 i))) sh rf mem' nx)
    (hT : ∀ i j, i < 5 → j < N → s = nI i → w = 1 → k = nI j → ∀ mem', LyR mem mem' i 1 (f (tI j 0)) (wth (f (tI j 0)) (f (tI j 1)) (f (tI j 2))) → mem' 123 = mem 123 → K (some (.int (mem 120 i))) sh rf mem' nx)
    (h2 : ∀ i j, i < 5 → j < 4 → s = nI i → w = 2 → k = nI j → ¬ mem 117 j = -1 → ∀ mem', LyR mem mem' i 2 (mem 118 j) 0 → (∀ x, mem' 123 x = if 24 * i ≤ x ∧ x < 24 * i + 24 then mem 119 (24 * j + (x - 24 * i)) else mem 123 x) → K (some (.int (mem 120 i))) sh rf mem' nx) : ab_Cx l G ol (d + 3) mM_lay [.ref 101, .int s, .int w, .int k] sh rf mem nx K := by
  subst hf
  refine e_mM_lay ⟨by decide, m_isSlot ⟨_, rfl, br0 (fun q => ⟨by decide, m_in ⟨_, rfl, br0 (fun q2 => ?_) (fun q2 => ⟨trivial, hB fun z => q2 z.2.1⟩)⟩⟩) (fun q => ⟨trivial, hB fun z => q z.1⟩)⟩⟩
  obtain ⟨i, hi, rfl⟩ := rg_of (M := 4) (by omega) q
  have hi5 : i < 5 := by omega
  have ci : Int32.toNatClampNeg (nI i) = i := cl_nI (by omega)
  have v5 : vp_in (nI i) 5 := vp_in_nI hi5 (by decide)
  obtain ⟨b, hb, rfl⟩ := rg_of (M := 3) (by omega) q2
  have i121 : ab_is sh nx 121 10 := is_of hS rfl rfl
  have v121 : vp_in (nI i) (sh 121).2 := in_of hS rfl rfl v5
  have i122 : ab_is sh nx 122 10 := is_of hS rfl rfl
  have v122 : vp_in (nI i) (sh 122).2 := in_of hS rfl rfl v5
  have plain : ∀ (w k : Int32) (mem' : ab_N), ¬ w = 2 → (K (some (.int (mem 120 i))) sh rf mem' nx) → ab_Go l G ol (d + 2) mM_lay (ab_mc mM_lay) (ab_ms mM_lay) (fun r sh rf mem nx _ _ => K r sh rf mem nx) 134 [.ref 101, .int (nI i), .int w, .int k, .int (mem 120 i), .int 0] [] sh rf mem' nx 0 0 := fun w k mem' hw hk => h_mM_lay_134 ⟨fun z => absurd z (by decide), fun _ => ⟨fun _ => ⟨trivial, hk⟩, fun z => absurd z hw⟩⟩
  rw [ci]
  rcases (show b = 0 ∨ b = 1 ∨ b = 2 ∨ b = 3 by omega) with rfl | rfl | rfl | rfl
  · exact ⟨fun _ => ⟨fun _ => ⟨fun _ => ⟨m9 hS, ma hS rfl rfl rfl v5 ⟨m9 hS, ma hS rfl rfl rfl v5 ⟨m9 hS, rd_of hS rfl rfl ⟨fun _ => ⟨fun _ => ⟨i121, v121, m9 hS, rd_of hS rfl rfl ⟨fun _ => ⟨i122, v122, plain _ _ _ (by decide) (h0 i hi5 rfl (Or.inl rfl) _ LyR.of (by rw [ab_w_ne _ _ _ (by decide), ab_w_ne _ _ _ (by decide), ab_w_ne _ _ _ (by decide)]))⟩, fun z => absurd z (by decide)⟩⟩, fun z => absurd z (by decide)⟩, fun z => absurd z (by decide)⟩⟩⟩⟩, fun z => absurd z (by decide)⟩, fun z => absurd z (by decide)⟩, fun z => absurd z (by decide)⟩
  · refine ⟨fun z => absurd rfl z, fun _ => ⟨m9 hS, m_isOne hS h1 ⟨_, rfl, br0 (fun y => ⟨fun _ => ⟨fun _ => ?_, fun z => absurd z (by decide)⟩, fun z => absurd z (by decide)⟩) (fun y => ⟨trivial, hB fun z => y (z.2.2.1 rfl)⟩)⟩⟩⟩
    obtain ⟨j, hj, rfl⟩ := ix_of (by omega) y
    have hj8 : j < 8 := by omega
    refine ⟨m9 hS, ma hS rfl rfl rfl v5 ⟨m9 hS, ma hS rfl rfl rfl v5 ⟨m9 hS, rd_of hS rfl rfl ⟨fun z => absurd rfl z, fun _ => ⟨m9 hS, m_of hS (k := 0) hj8 (by decide) ⟨_, rfl, i121, v121, m9 hS, rd_of hS rfl rfl ⟨fun z => absurd rfl z, fun _ => ⟨m9 hS, m_worthOf (d := d) hS hj8 ⟨_, rfl, i122, v122, plain _ _ _ (by decide) ?_⟩⟩⟩⟩⟩⟩⟩⟩⟩
    have e1 : (ab_w mem 120 i (nI 1)) 102 = mem 102 := ab_w_ne _ _ _ (by decide)
    have e2 : (ab_w (ab_w mem 120 i (nI 1)) 121 i (mem 102 (tI j 0))) 102 = mem 102 := by rw [ab_w_ne _ _ _ (by decide)]; exact e1
    rw [e1, e2]
    exact hT i j hi5 hj rfl rfl rfl _ LyR.of (by rw [ab_w_ne _ _ _ (by decide), ab_w_ne _ _ _ (by decide), ab_w_ne _ _ _ (by decide)])
  · refine ⟨fun _ => ⟨fun z => absurd rfl z, fun _ => ⟨by decide, m_isSheet ⟨_, rfl, br1 (fun y => ⟨fun z => absurd rfl z, fun _ => ?_⟩) (fun y => ⟨trivial, hB fun z => y (z.2.2.2 rfl)⟩)⟩⟩⟩, fun z => absurd z (by decide)⟩
    obtain ⟨j, hj, rfl⟩ := rg_of (M := 3) (by omega) y
    have hj4 : j < 4 := by omega
    have cj : Int32.toNatClampNeg (nI j) = j := cl_nI (by omega)
    have vj : vp_in (nI j) 4 := vp_in_nI hj4 (by decide)
    rw [cj]
    refine ⟨m9 hS, ma hS rfl rfl rfl vj ⟨fun z => ?_, fun z => ⟨trivial, hZ i j hi5 hj4 rfl rfl rfl ((hso j hj4).resolve_right z)⟩⟩⟩
    have hm1 : ¬ mem 117 j = -1 := fun e => absurd z (by rw [e]; decide)
    refine ⟨m9 hS, ma hS rfl rfl rfl v5 ⟨m9 hS, ma hS rfl rfl rfl v5 ⟨m9 hS, rd_of hS rfl rfl ⟨fun _ => ⟨fun z => absurd rfl z, fun _ => ⟨m9 hS, ma hS rfl rfl rfl vj ⟨i121, v121, m9 hS, rd_of hS rfl rfl ⟨fun _ => ⟨i122, v122, ?_⟩, fun z => absurd z (by decide)⟩⟩⟩⟩, fun z => absurd z (by decide)⟩⟩⟩⟩
    rw [show (ab_w mem 120 i (nI 2)) 118 = mem 118 from ab_w_ne _ _ _ (by decide)]
    have hk := h2 i j hi5 hj4 rfl rfl rfl hm1
    have L0 : LyR mem (ab_w (ab_w (ab_w mem 120 i (nI 2)) 121 i (mem 118 j)) 122 i 0) i 2 (mem 118 j) 0 := LyR.of
    have L1 : (ab_w (ab_w (ab_w mem 120 i (nI 2)) 121 i (mem 118 j)) 122 i 0) 123 = mem 123 := by rw [ab_w_ne _ _ _ (by decide), ab_w_ne _ _ _ (by decide), ab_w_ne _ _ _ (by decide)]
    generalize ab_w (ab_w (ab_w mem 120 i (nI 2)) 121 i (mem 118 j)) 122 i 0 = mem1 at *
    suffices loop : ∀ r x, x + r = 24 → ∀ mem', (∀ a, a ≠ 123 → mem' a = mem1 a) → (∀ y, mem' 123 y = if 24 * i ≤ y ∧ y < 24 * i + x then mem 119 (24 * j + (y - 24 * i)) else mem 123 y) → ab_Go l G ol (d + 2) mM_lay (ab_mc mM_lay) (ab_ms mM_lay) (fun r sh rf mem nx _ _ => K r sh rf mem nx) 134 [.ref 101, .int (nI i), .int (nI 2), .int (nI j), .int (mem 120 i), .int (nI x)] [] sh rf mem' nx 0 0 from loop 24 0 rfl mem1 (fun _ _ => rfl) (fun y => by rw [if_neg (by omega), L1])
    intro r
    induction r with
    | zero =>
      intro x hx mem' F E
      have : x = 24 := by omega
      subst this
      refine h_mM_lay_134 ⟨fun _ => ⟨trivial, hk mem' ⟨fun a a1 a2 a3 a4 => by rw [F a a4]; exact L0.1 a a1 a2 a3 a4, by rw [F _ (by decide)]; exact L0.2.1, by rw [F _ (by decide)]; exact L0.2.2.1, by rw [F _ (by decide)]; exact L0.2.2.2⟩ E⟩, fun z => absurd (by decide) z⟩
    | succ r ih =>
      intro x hx mem' F E
      refine h_mM_lay_134 ⟨fun z => absurd z (nI_ge (b := 24) (by omega) (by decide)), fun _ => ⟨fun z => absurd rfl z, fun _ => ?_⟩⟩
      rw [c24, c24]
      refine ⟨m9 hS, rd_of hS rfl rfl ⟨m9 hS, ma hS rfl rfl rfl (vp_in_nI (by omega) (by decide)) ⟨is_of hS rfl rfl, in_of hS rfl rfl (vp_in_nI (by omega : 24 * i + x < 120) (by decide)), ?_⟩⟩⟩
      rw [cl_nI (by omega), cl_nI (by omega), nI_1, F 119 (by decide), L0.1 119 (by decide) (by decide) (by decide) (by decide)]
      refine ih (x + 1) (by omega) _ (fun a ha => by rw [ab_w_ne _ _ _ ha]; exact F a ha) (fun y => ?_)
      by_cases e : y = 24 * i + x
      · subst e
        rw [w_eq, if_pos (by omega)]
        congr 1; omega
      · rw [w_ne _ _ (Or.inr e), E]
        by_cases c : 24 * i ≤ y ∧ y < 24 * i + x
        · rw [if_pos c, if_pos (by omega)]
        · rw [if_neg c, if_neg (by omega)]
  · exact ⟨fun _ => ⟨fun _ => ⟨fun _ => ⟨m9 hS, ma hS rfl rfl rfl v5 ⟨m9 hS, ma hS rfl rfl rfl v5 ⟨m9 hS, rd_of hS rfl rfl ⟨fun _ => ⟨fun _ => ⟨i121, v121, m9 hS, rd_of hS rfl rfl ⟨fun _ => ⟨i122, v122, plain _ _ _ (by decide) (h0 i hi5 rfl (Or.inr rfl) _ LyR.of (by rw [ab_w_ne _ _ _ (by decide), ab_w_ne _ _ _ (by decide), ab_w_ne _ _ _ (by decide)]))⟩, fun z => absurd z (by decide)⟩⟩, fun z => absurd z (by decide)⟩, fun z => absurd z (by decide)⟩⟩⟩⟩, fun z => absurd z (by decide)⟩, fun z => absurd z (by decide)⟩, fun z => absurd z (by decide)⟩
/-- what check may change while it goes on -/
def FC (m0 mem : ab_N) (f : Row) : Prop := (∀ a, a ≠ 102 → (a < 104 ∨ 108 < a) → a ≠ 115 → a ≠ 116 → mem a = m0 a) ∧ ∀ k, k < 1483 → mem 104 k = f k
set_option maxHeartbeats 4000000 in
theorem m_check (hS : St sh rf nx) {N' D' T' W : Nat} (hW6 : W ≤ 60) (eW : mem 101 36 = nI W) (hh : mem 101 4 = homV 8) (hz2 : ∀ k, 1483 ≤ k → mem 102 k = 0) (hz3 : ∀ k, 1483 ≤ k → mem 103 k = 0) (hk : mem 101 3 = 0 ∨ (mem 101 3 = 1 ∧ N' ≤ 8 ∧ Wf N' D' (mem 103) ∧ D' ≤ 9999 ∧ TxT (mem 103) T')) {n : Int32} (hB : ¬ (1 ≤ n ∧ n ≤ 30) → K (some (.int (-1000000001))) sh rf (ab_w mem 101 36 0) nx) (hZ : (1 ≤ n ∧ n ≤ 30) → mem 101 3 = 0 → K (some (.int (-1000000002))) sh rf (ab_w mem 101 36 0) nx)
    (hK : ∀ k, 1 ≤ k → k ≤ 30 → n = nI k → mem 101 3 = 1 → ∀ mem', FS (ab_w mem 101 36 0) mem' → K (some (.int (ckG (ctO (oF (mem 103) 0 T')) N' (mem 103) (mem 125) W 0 (min k (9999 - D'))))) sh rf mem' nx) : ab_Cx l G ol (d + 6) mM_check [.ref 101, .int n] sh rf mem nx K := by
  refine e_mM_check ⟨m9 hS, m9 hS, by decide, m_in ⟨_, rfl, br1 (fun q => ⟨m9 hS, ?_⟩) (fun q => ⟨trivial, hB q⟩)⟩⟩
  rw [w_ne _ _ (Or.inr (by decide))]
  refine ⟨fun z => ?_, fun z => ⟨trivial, hZ q z⟩⟩
  rcases hk with k0 | ⟨k1, hN, hW, hD, hx⟩
  · exact absurd k0 z
  obtain ⟨k, hk, rfl⟩ := rg_of (M := 30) (by omega) ⟨Int32.le_trans (by decide) q.1, q.2⟩
  have kk1 : 1 ≤ k := (nI_leI (a := 1) (by omega) (by omega)).mp q.1
  have hkk := hK k kk1 hk rfl k1
  rw [eW]
  have o1 : ∀ a, a ≠ 101 → ab_w mem 101 36 0 a = mem a := fun a ha => ab_w_ne _ _ _ ha
  have o4 : ab_w mem 101 36 0 101 4 = homV 8 := by rw [w_ne _ _ (Or.inr (by decide))]; exact hh
  generalize hm1 : ab_w mem 101 36 0 = mem1 at *
  have e2 := o1 102 (by decide)
  have e3 := o1 103 (by decide)
  have e125 := o1 125 (by decide)
  generalize hg : mem 103 = g at *
  generalize hf : mem 102 = f at *
  generalize hcst : ctO (oF g 0 T') = cst at *
  have hct : CtR cst := by rw [← hcst]; exact ctO_rg _
  refine ⟨m9 hS, rd_of hS rfl rfl ⟨m9 hS, rd_of hS rfl rfl ⟨by decide, m_copyAll hS (by decide) (by decide) (fun mem2 F2 A2 B2 => ⟨rfl, m9 hS, rd_of hS rfl rfl ⟨m9 hS, rd_of hS rfl rfl ⟨by decide, m_copyAll hS (by decide) (by decide) (fun mem3 F3 A3 B3 => ⟨rfl, mn hS (pk_in 2 1483 (by decide)) ⟨by decide, ?_⟩⟩) (by decide)⟩⟩⟩) (by decide)⟩⟩⟩
  have g3 : mem3 102 = g := by
    funext x
    rcases Nat.lt_or_ge x 1483 with c | c
    · rw [A3 x c, F2 103 (by decide), e3]
    · rw [B3 x c, F2 102 (by decide), e2, hz2 x c, hz3 x c]
  have C3 : FC mem1 mem3 f := ⟨fun a a1 a2 a3 a4 => by rw [F3 a a1, F2 a (by omega)], fun x hx => by rw [F3 104 (by decide), A2 x hx, e2]⟩
  rw [show mem3 102 (Int32.toNatClampNeg 2) = nI D' by rw [g3]; exact hW.2.2.2.2.1]
  refine m_within ⟨_, rfl, ?_⟩
  have e : (2 : Int32) * wiI ((9999 : Int32) - nI D') 0 (nI k) = nI (2 * min k (9999 - D')) := by
    rw [show (9999 : Int32) = nI 9999 from rfl, pk_sub hD]
    unfold wiI
    rw [if_pos (nI_pos' (by omega))]
    by_cases z : 9999 - D' ≤ k
    · rw [if_pos (nI_le z (by omega)), show (2 : Int32) = nI 2 from rfl, pk_mul]; congr 1; omega
    · rw [if_neg (nI_ge (by omega) (by omega)), show (2 : Int32) = nI 2 from rfl, pk_mul]; congr 1; omega
  rw [e]
  generalize hM : min k (9999 - D') = M at *
  have M30 : M ≤ 30 := by omega
  -- the end: now is put back
  have ex : ∀ ρ i, ρ ≤ 100 → i ≤ 100 → (2 * M ≤ 2 * i ∨ ρ ≠ 2 * i) → ∀ mem', FC mem1 mem' f → (∀ x, 1483 ≤ x → mem' 102 x = 0) → (∀ mem'', FS mem1 mem'' → K (some (.int (if ρ = W ∧ ρ = 2 * M then 0 else nI (1 + ρ)))) sh rf mem'' nx) → ∀ u, ab_Go l G ol (d + 5) mM_check (ab_mc mM_check) (ab_ms mM_check) (fun r sh rf mem nx _ _ => K r sh rf mem nx) 80 [.ref 101, .int (nI k), .int (nI W), .int (nI (2 * M)), .int (nI ρ), .int (nI i), u] [] sh rf mem' nx 0 0 := by
    intro ρ i hρ hi hc mem' C Z hfin u
    have p2 : (2 : Int32) * nI i = nI (2 * i) := pk_mul 2 i
    have p1 : (1 : Int32) + nI ρ = nI (1 + ρ) := nI_add 1 _
    have tail : ab_is sh nx 101 9 ∧ (ab_rd (rf 101 2) fun b1 => ab_is sh nx 101 9 ∧ (ab_rd (rf 101 0) fun b2 => 2 ≤ 2 ∧ ab_Cx l G ol (d + 5) mM_copyAll [.ref b1, .ref b2] sh rf mem' nx (fun r3 sh3 rf3 mem3 nx3 => r3 = none ∧ ((¬ nI ρ = nI W → True ∧ K (some (.int (nI (1 + ρ)))) sh3 rf3 mem3 nx3) ∧ (nI ρ = nI W → (¬ nI ρ = nI (2 * M) → True ∧ K (some (.int (nI (1 + ρ)))) sh3 rf3 mem3 nx3) ∧ (nI ρ = nI (2 * M) → True ∧ K (some (.int (0 : Int32))) sh3 rf3 mem3 nx3)))))) := by
      refine ⟨m9 hS, rd_of hS rfl rfl ⟨m9 hS, rd_of hS rfl rfl ⟨by decide, m_copyAll hS (by decide) (by decide) (fun mem4 F4 A4 B4 => ⟨rfl, ?_⟩) (by decide)⟩⟩⟩
      have hfs : FS mem1 mem4 := by
        refine ⟨fun a a1 a2 a3 a4 => by rw [F4 a a1]; exact C.1 a a1 a2 a3 a4, ?_⟩
        rw [e2]
        funext x
        rcases Nat.lt_or_ge x 1483 with c | c
        · rw [A4 x c]; exact C.2 x c
        · rw [B4 x c, Z x c, hz2 x c]
      have hv := hfin mem4 hfs
      refine ⟨fun c => ⟨trivial, ?_⟩, fun c => ⟨fun c2 => ⟨trivial, ?_⟩, fun c2 => ⟨trivial, ?_⟩⟩⟩
      · rw [if_neg (fun y => c (by rw [y.1]))] at hv; exact hv
      · rw [if_neg (fun y => c2 (by rw [← y.2]))] at hv; exact hv
      · rw [if_pos ⟨(nI_eq (by omega) (by omega)).mp c, (nI_eq (by omega) (by omega)).mp c2⟩] at hv; exact hv
    refine h_mM_check_80 ?_
    unfold v_mM_check_80
    rw [p2, p1]
    refine ⟨fun _ => tail, fun y => ⟨fun _ => tail, fun y2 => ?_⟩⟩
    exfalso
    rcases hc with c | c
    · exact y (nI_le c (by omega))
    · exact c ((nI_eq (by omega) (by omega)).mp y2)
  suffices loop : ∀ r i, i + r = M → ckG cst N' g (mem 125) W i r = ckG cst N' g (mem 125) W 0 M → ∀ mem', FC mem1 mem' f → mem' 102 = (pasF cst 8 N' g i).1 → ∀ u, ab_Go l G ol (d + 5) mM_check (ab_mc mM_check) (ab_ms mM_check) (fun r sh rf mem nx _ _ => K r sh rf mem nx) 80 [.ref 101, .int (nI k), .int (nI W), .int (nI (2 * M)), .int (nI (2 * i)), .int (nI i), u] [] sh rf mem' nx 0 0 from loop M 0 (by omega) rfl mem3 C3 (by rw [pasF_0]; exact g3) _
  have zz : ∀ i x, 1483 ≤ x → (pasF cst 8 N' g i).1 x = 0 := fun i x hx => by rw [pasF_hi hN (by omega)]; exact hz3 x hx
  intro r
  induction r with
  | zero =>
    intro i hi ec mem' C e' u
    have : i = M := by omega
    subst this
    refine ex (2 * i) i (by omega) (by omega) (Or.inl (Nat.le_refl _)) mem' C (fun x hx => by rw [e']; exact zz i x hx) (fun mem'' hfs => ?_) u
    have hf := hkk mem'' hfs
    rw [← ec, ckG] at hf
    by_cases y : 2 * i = W
    · rw [if_pos ⟨y, rfl⟩]; rw [if_pos y] at hf; exact hf
    · rw [if_neg (fun c => y c.1)]; rw [if_neg y] at hf; exact hf
  | succ r ih =>
    intro i hi ec mem' C e' u
    have es : ckG cst N' g (mem 125) W i (r + 1) = if W ≤ 2 * i ∨ ¬ mem 125 (2 * i) = smF (pasF cst 8 N' g (i + 1)).1 4 N' then nI (1 + 2 * i) else if W ≤ 2 * i + 1 ∨ ¬ mem 125 (2 * i + 1) = padF (pasF cst 8 N' g (i + 1)).1 N' then nI (1 + (2 * i + 1)) else ckG cst N' g (mem 125) W (i + 1) r := by rw [ckG]
    have W1 := hW.pass (home := 8) hct i (by omega)
    have ghi : ∀ x, 111 ≤ x → (pasF cst 8 N' g i).1 x = g x := fun x hx => pasF_hi hN hx i
    have p2 : (2 : Int32) * nI i = nI (2 * i) := pk_mul 2 i
    have p3 : nI (2 * i) + 1 = nI (2 * i + 1) := nI_1 _
    have p4 : nI (2 * i + 1) + 1 = nI (2 * (i + 1)) := by rw [nI_1]; congr 1
    refine h_mM_check_80 ?_
    unfold v_mM_check_80
    rw [p2, p3, p4, Int32.add_zero, Int32.add_zero, Int32.add_zero, nI_1]
    refine ⟨fun y => absurd y (nI_ge (by omega) (by omega)), fun _ => ⟨fun y => absurd rfl y, fun _ => ⟨m9 hS, ?_⟩⟩⟩
    refine m_day (d := d) (home := 8) (T := T') (D := D' + i) hS hN (by omega) W1.1 (TxT_congr (W1.2.2 6 (by omega)) ghi hx) (by rw [C.1 101 (by decide) (by decide) (by decide) (by decide)]; exact o4) e' fun mem4 F4 e4 => ⟨_, rfl, ?_⟩
    rw [oF_congr ghi, hcst] at e4
    have e4' : mem4 102 = (pasF cst 8 N' g (i + 1)).1 := by rw [pasF_s]; exact e4
    have C4 : FC mem1 mem4 f := ⟨fun a a1 a2 a3 a4 => by rw [F4 a a1 (by omega) (by omega) (by omega) a3 a4]; exact C.1 a a1 a2 a3 a4, fun x hx => by rw [F4 104 (by decide) (by decide) (by decide) (by decide) (by decide) (by decide)]; exact C.2 x hx⟩
    have Z4 : ∀ x, 1483 ≤ x → mem4 102 x = 0 := fun x hx => by rw [e4']; exact zz (i + 1) x hx
    have w4 : mem4 102 1 = nI N' := by rw [e4']; exact (hW.pass (home := 8) hct (i + 1) (by omega)).1.1
    have t4 : mem4 125 = mem 125 := by rw [C4.1 125 (by decide) (by decide) (by decide) (by decide)]; exact e125
    have no : ¬ nI (2 * i) = nI (2 * i + 1) := fun y => by have := (nI_eq (by omega) (by omega)).mp y; omega
    have stop0 : (W ≤ 2 * i ∨ ¬ mem 125 (2 * i) = smF (pasF cst 8 N' g (i + 1)).1 4 N') → ∀ u, ab_Go l G ol (d + 5) mM_check (ab_mc mM_check) (ab_ms mM_check) (fun r sh rf mem nx _ _ => K r sh rf mem nx) 80 [.ref 101, .int (nI k), .int (nI W), .int (nI (2 * M)), .int (nI (2 * i)), .int (nI (i + 1)), u] [] sh rf mem4 nx 0 0 := by
      intro c u
      refine ex (2 * i) (i + 1) (by omega) (by omega) (Or.inr (by omega)) mem4 C4 Z4 (fun mem'' hfs => ?_) u
      have hf := hkk mem'' hfs
      rw [← ec, es, if_pos c] at hf
      rw [if_neg (by omega)]; exact hf
    have stop1 : ¬ (W ≤ 2 * i ∨ ¬ mem 125 (2 * i) = smF (pasF cst 8 N' g (i + 1)).1 4 N') → (W ≤ 2 * i + 1 ∨ ¬ mem 125 (2 * i + 1) = padF (pasF cst 8 N' g (i + 1)).1 N') → ∀ u, ab_Go l G ol (d + 5) mM_check (ab_mc mM_check) (ab_ms mM_check) (fun r sh rf mem nx _ _ => K r sh rf mem nx) 80 [.ref 101, .int (nI k), .int (nI W), .int (nI (2 * M)), .int (nI (2 * i + 1)), .int (nI (i + 1)), u] [] sh rf mem4 nx 0 0 := by
      intro c0 c u
      refine ex (2 * i + 1) (i + 1) (by omega) (by omega) (Or.inr (by omega)) mem4 C4 Z4 (fun mem'' hfs => ?_) u
      have hf := hkk mem'' hfs
      rw [← ec, es, if_neg c0, if_pos c] at hf
      rw [if_neg (by omega)]; exact hf
    have v60 : ∀ x, x < 60 → vp_in (nI x) 60 := fun x hx => vp_in_nI hx (by decide)
    refine ⟨fun y => ⟨fun _ => stop0 (Or.inl ((nI_leI (by omega) (by omega)).mp y)) _, fun z => absurd z no⟩, fun y => ?_⟩
    have hlt : 2 * i < W := by
      rcases Nat.lt_or_ge (2 * i) W with c | c
      · exact c
      · exact absurd (nI_le c (by omega)) y
    refine ⟨m9 hS, ma hS rfl rfl rfl (v60 _ (by omega)) ⟨m9 hS, m_sumOf (d := d + 3) hS (k := 4) hN (by decide) w4 ⟨_, rfl, ?_⟩⟩⟩
    rw [cl_nI (by omega), t4, e4']
    refine ⟨fun y2 => ⟨fun _ => stop0 (Or.inr y2) _, fun z => absurd z no⟩, fun y2 => ⟨fun z => absurd rfl z, fun _ => ?_⟩⟩
    have c0 : ¬ (W ≤ 2 * i ∨ ¬ mem 125 (2 * i) = smF (pasF cst 8 N' g (i + 1)).1 4 N') := fun c => c.elim (fun c => by omega) (fun c => c y2)
    refine ⟨fun y3 => stop1 c0 (Or.inl ((nI_leI (by omega) (by omega)).mp y3)) _, fun y3 => ?_⟩
    have hlt2 : 2 * i + 1 < W := by
      rcases Nat.lt_or_ge (2 * i + 1) W with c | c
      · exact c
      · exact absurd (nI_le c (by omega)) y3
    refine ⟨m9 hS, ma hS rfl rfl rfl (v60 _ (by omega)) ⟨m9 hS, m_pad (d := d + 2) hS hN w4 ⟨_, rfl, ?_⟩⟩⟩
    rw [cl_nI (by omega), t4, e4']
    refine ⟨fun y4 => stop1 c0 (Or.inr y4) _, fun y4 => ih (i + 1) (by omega) ?_ mem4 C4 e4' _⟩
    rw [← ec, es, if_neg c0, if_neg (fun c => c.elim (fun c => by omega) (fun c => c y4))]
end MI
