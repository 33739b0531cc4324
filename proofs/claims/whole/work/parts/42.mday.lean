/-! THE REFERENCE: a day -/
def homV (home : Nat) : Int32 := if home < 8 then nI home else -1
theorem homV_eq {home i : Nat} (hi : i < 8) : nI i = homV home ↔ i = home := by
  unfold homV
  by_cases h : home < 8
  · rw [if_pos h]
    exact nI_eq (by omega) (by omega)
  · rw [if_neg h]
    have : ∀ i, i < 8 → ¬ nI i = -1 := by decide +kernel
    exact ⟨fun q => absurd q (this i hi), fun q => absurd q (by omega)⟩
def bv (b : Bool) : Int32 := if b = true then 1 else 0
theorem bv_0 {b : Bool} : bv b = 0 ↔ ¬ b = true := by cases b <;> decide
/-- what a day may change -/
def FD (mem mem' : ab_N) : Prop := ∀ a, a ≠ 102 → a ≠ 105 → a ≠ 106 → a ≠ 107 → a ≠ 115 → a ≠ 116 → mem' a = mem a
theorem FD.rfl {mem : ab_N} : FD mem mem := fun _ _ _ _ _ _ _ => Eq.refl _
theorem FD.trans {m1 m2 m3 : ab_N} (h1 : FD m1 m2) (h2 : FD m2 m3) : FD m1 m3 := fun a a1 a2 a3 a4 a5 a6 => (h2 a a1 a2 a3 a4 a5 a6).trans (h1 a a1 a2 a3 a4 a5 a6)
theorem FD.row {mem : ab_N} {f : Row} : FD mem (ab_row mem 102 f) := fun a a1 _ _ _ _ _ => row_ne mem f a1
theorem FD.w {mem : ab_N} {a k : Nat} {v : Int32} (h : a = 102 ∨ a = 105 ∨ a = 106 ∨ a = 107 ∨ a = 115 ∨ a = 116) : FD mem (ab_w mem a k v) := fun b b1 b2 b3 b4 b5 b6 => ab_w_ne _ _ _ (by omega)
/-- claims from place i + 1 on have moved -/
def shf (g : Row) (t i : Nat) : Row := fun k => if tI t (7 + i) < k ∧ k ≤ tI t 12 then g (k - 1) else g k
theorem shf_5 (g : Row) (t : Nat) : shf g t 5 = g := by
  funext k; unfold shf; rw [if_neg (by unfold tI; omega)]
theorem shf_s (g : Row) (t i : Nat) (hi : i < 5) : upd (shf g t (i + 1)) (tI t (7 + (i + 1))) (shf g t (i + 1) (tI t (7 + i))) = shf g t i := by
  funext k
  unfold shf upd
  by_cases e : k = tI t (7 + (i + 1))
  · rw [if_pos e, if_neg (by unfold tI; omega), if_pos (by unfold tI at *; omega)]
    congr 1; unfold tI at *; omega
  · rw [if_neg e]
    show (if tI t (7 + (i + 1)) < k ∧ k ≤ tI t 12 then g (k - 1) else g k) = _
    by_cases c : tI t (7 + (i + 1)) < k ∧ k ≤ tI t 12
    · rw [if_pos c, if_pos (by unfold tI at *; omega)]
    · rw [if_neg c, if_neg (by unfold tI at *; omega)]
theorem trF_row {ct : Ct} {home t : Nat} {g : Row} (hh : t ≠ home) : upd (shf (upd (upd (rowD g) (tI t 3) (g (tI t 3) + trC ct t g)) (tI t 4) (g (tI t 4) + trA ct t g)) t 0) (tI t 7) (trA ct t g) = trF ct home t g := by
  funext k
  have t0 : ∀ j, tI t j = 7 + 13 * t + j := fun j => Eq.refl _
  by_cases k0 : k = 0
  · subst k0
    rw [trF_0, pk_un (by rw [t0]; omega), shf, if_neg (by rw [t0]; omega), pk_un (by rw [t0]; omega), pk_un (by rw [t0]; omega)]
    exact pk_us
  · by_cases k7 : k = tI t 7
    · subst k7
      rw [pk_us]
      exact (trF_7 hh).symm
    · rw [pk_un k7, shf]
      by_cases c : tI t (7 + 0) < k ∧ k ≤ tI t 12
      · rw [if_pos c, pk_un (by rw [t0] at *; omega), pk_un (by rw [t0] at *; omega), rowD_ne (by rw [t0] at *; omega)]
        unfold trF
        rw [if_neg k0, if_neg hh, if_neg (by rw [t0] at *; omega), if_neg (by rw [t0] at *; omega), if_neg k7, if_pos (by simp only [t0] at *; omega)]
      · rw [if_neg c]
        by_cases k4 : k = tI t 4
        · subst k4; rw [pk_us, trF_4 hh]
        · rw [pk_un k4]
          by_cases k3 : k = tI t 3
          · subst k3; rw [pk_us, trF_3 hh]
          · rw [pk_un k3, rowD_ne k0]
            unfold trF
            rw [if_neg k0, if_neg hh, if_neg k3, if_neg k4, if_neg k7, if_neg (by simp only [t0] at *; omega)]
theorem trAll_hi {ct : Ct} {home k : Nat} {f : Row} (hk : 111 ≤ k) : ∀ n, n ≤ 8 → trAll ct home f n k = f k
  | 0, _ => by rw [trAll]
  | n + 1, h => by rw [trAll, trF_e (by omega) (by unfold tI; omega) (by unfold tI; omega) (by unfold tI; omega), trAll_hi hk n (by omega)]
theorem lkR_hi {ly : Row} {home t k : Nat} {s : Lks} (ht : t < 8) (hk : 111 ≤ k) : (lk ly home t s).1 k = s.1 k := by
  unfold lk
  split
  · rfl
  · split
    · show lkR ly t s.1 k = s.1 k
      exact lkR_e (by unfold tI; omega) (by unfold tI; omega) (by unfold tI; omega)
    · rfl
theorem pick_lt {N : Nat} (h0 : 0 < N) (h8 : N ≤ 8) (z : Int32) : pick N z < N := by
  obtain ⟨t, ht, e⟩ := rem_dval (drw z) (n := N) h0 (by omega)
  unfold pick
  rw [e, cl_nI (by omega)]; exact ht
theorem lot1_lt (ly : Row) (home : Nat) {N : Nat} (h0 : 0 < N) (h8 : N ≤ 8) (s : Lks) : ∃ t, t < N ∧ lot1 ly home N s = lk ly home t (rowD s.1, s.2.1, s.2.2) := ⟨pick N (s.1 0), pick_lt h0 h8 _, rfl⟩
theorem lots_hi {ly : Row} {home N k : Nat} {s : Lks} (h8 : N ≤ 8) (hk : 111 ≤ k) (n : Nat) (h : 0 < N ∨ n = 0) : (lots ly home N s n).1 k = s.1 k := by
  induction n with
  | zero => rw [lots_0]
  | succ n ih =>
    have h0 : 0 < N := by omega
    have ih := ih (Or.inl h0)
    rw [lots_s]
    generalize lots ly home N s n = g at *
    obtain ⟨t, ht, e⟩ := lot1_lt ly home h0 h8 g
    rw [e]
    have h1 := lkR_hi (ly := ly) (home := home) (t := t) (k := k) (s := (rowD g.1, g.2.1, g.2.2)) (by omega) hk
    have h2 : (rowD g.1, g.2.1, g.2.2).1 k = g.1 k := rowD_ne (by omega)
    exact (h1.trans h2).trans ih
theorem sgns_hi {ly : Row} {home N k : Nat} {s : Lks} (h8 : N ≤ 8) (hk : 111 ≤ k) (n : Nat) : (sgns ly home N s n).1 k = s.1 k := by
  induction n with
  | zero => rw [sgns_0]
  | succ n ih =>
    rw [sgns_s]
    generalize sgns ly home N s n = g at *
    unfold sgn1
    cases e : bst (sgf g.1) (exB home g.2.1) N with
    | none => exact ih
    | some t =>
      have := bst_lt e
      exact (lkR_hi (by omega) hk).trans ih
theorem dayF_hi {ct : Ct} {home N k : Nat} {f : Row} (h8 : N ≤ 8) (hk : 111 ≤ k) : dayF ct home N f k = f k := by
  unfold dayF
  rw [finR_e (by omega) (by omega)]
  unfold dayS
  split
  · rw [lots_hi h8 hk _ (by omega)]; exact trAll_hi hk N h8
  · rw [sgns_hi h8 hk]; exact trAll_hi hk N h8
theorem pasF_hi {ct : Ct} {home N k : Nat} {f : Row} (h8 : N ≤ 8) (hk : 111 ≤ k) (n : Nat) : (pasF ct home N f n).1 k = f k := by
  induction n with
  | zero => rw [pasF_0]
  | succ n ih =>
    rw [pasF_s]
    generalize pasF ct home N f n = g at *
    exact (dayF_hi h8 hk).trans ih
def finP (g : Row) (ca : Nat → Bool) (n : Nat) : Row := fun k => if k % 13 = 0 ∧ 13 ≤ k ∧ k / 13 ≤ n then (if ca (k / 13 - 1) = true then 0 else g k + 1) else g k
theorem finP_0 (g : Row) (ca : Nat → Bool) : finP g ca 0 = g := by
  funext k; unfold finP; rw [if_neg (by omega)]
theorem ti6_d (n : Nat) : tI n 6 / 13 = n + 1 ∧ tI n 6 % 13 = 0 := by
  have h1 : tI n 6 = 13 * (n + 1) := by unfold tI; omega
  rw [h1]
  exact ⟨Nat.mul_div_cancel_left _ (by decide), Nat.mul_mod_right _ _⟩
theorem finP_s (g : Row) (ca : Nat → Bool) (n : Nat) : upd (finP g ca n) (tI n 6) (if ca n = true then 0 else finP g ca n (tI n 6) + 1) = finP g ca (n + 1) := by
  obtain ⟨d1, d2⟩ := ti6_d n
  have d3 : tI n 6 = 13 * n + 13 := by unfold tI; omega
  funext k
  by_cases e : k = tI n 6
  · subst e
    have a : finP g ca n (tI n 6) = g (tI n 6) := by unfold finP; rw [if_neg (by omega)]
    have b : finP g ca (n + 1) (tI n 6) = if ca n = true then 0 else g (tI n 6) + 1 := by unfold finP; rw [if_pos (by omega), d1]; rfl
    rw [pk_us, a, b]
  · rw [pk_un e]
    unfold finP
    by_cases c : k % 13 = 0 ∧ 13 ≤ k ∧ k / 13 ≤ n
    · rw [if_pos c, if_pos (show k % 13 = 0 ∧ 13 ≤ k ∧ k / 13 ≤ n + 1 by omega)]
    · rw [if_neg c, if_neg (show ¬ (k % 13 = 0 ∧ 13 ≤ k ∧ k / 13 ≤ n + 1) by omega)]
theorem finP_end (g : Row) (ca : Nat → Bool) (N : Nat) : upd (finP g ca N) 2 (finP g ca N 2 + 1) = finR N g ca := by
  funext k
  by_cases e : k = 2
  · subst e
    rw [pk_us, finR_2]
    unfold finP
    rw [if_neg (by omega)]
  · rw [pk_un e]
    unfold finP finR
    rw [if_neg e]
section MD
variable {l : Launch} {G : ab_G} {ol : ab_Ol} {d : Nat} {sh : ab_S} {rf : ab_R} {mem : ab_N} {nx : Nat} {K : ab_K}
theorem nar0 : vp_nar .boolean (0 : Int32) = 0 := by decide
theorem nar1 : vp_nar .boolean (1 : Int32) = 1 := by decide
set_option maxHeartbeats 4000000 in
theorem m_travels (hS : St sh rf nx) {T N D home t : Nat} {f : Row} (hN : N ≤ 8) (hD : D ≤ 100000) (hW : Wf N D f) (hx : TxT f T) (ht : t < N) (hh : mem 101 4 = homV home) (hf : mem 102 = trAll (ctO (oF f 0 T)) home f t)
    (h : ∀ mem', FD mem mem' → mem' 102 = trAll (ctO (oF f 0 T)) home f (t + 1) → mem' 105 t = trL (ctO (oF f 0 T)) home f t → mem' 106 t = 0 → mem' 107 t = 0 → (∀ j, j ≠ t → mem' 105 j = mem 105 j ∧ mem' 106 j = mem 106 j ∧ mem' 107 j = mem 107 j) → K none sh rf mem' nx) : ab_Cx l G ol (d + 4) mM_travels [.ref 101, .int (nI t)] sh rf mem nx K := by
  have ht8 : t < 8 := by omega
  have ct : Int32.toNatClampNeg (nI t) = t := nI_clamp (by omega)
  obtain ⟨c, a, hc, hca, ha, ec, ea⟩ := tr_rg (ct := ctO (oF f 0 T)) (home := home) (ctO_rg _) hD hW ht
  obtain ⟨⟨kk, hkk, ek⟩, ⟨n, hn, en⟩, ⟨b, hb, eb⟩, _, ⟨s, hs, es⟩⟩ := hW.2.2.2.2.2 t ht
  generalize hct : ctO (oF f 0 T) = cst at *
  generalize hg : trAll cst home f t = g at *
  have gn : g (tI t 1) = nI n := by rw [← hg, trAll_un (by decide) (by decide)]; exact en
  have gs : g (tI t 6) = nI s := by rw [← hg, trAll_un (by decide) (by decide)]; exact es
  have ghi : ∀ j, 111 ≤ j → g j = f j := fun j hj => by rw [← hg]; exact trAll_hi hj t (by omega)
  have g6 : g 6 = f 6 := by rw [← hg]; exact trAll_keep (by decide) (by decide) t
  have enext : trAll cst home f (t + 1) = trF cst home t g := by rw [trAll, hg]
  have eL : trL cst home f t = if t = home then 0 else if trC cst t g < trA cst t g then trA cst t g - trC cst t g else 0 := by unfold trL; rw [hg]
  have v8 : vp_in (nI t) 8 := vp_in_nI ht8 (by decide)
  obtain ⟨x, hx20, ex⟩ := rem_dval (drw (mem 102 0)) (n := 20) (by decide) (by decide)
  have ex' : dval (drw (mem 102 0)) - dval (drw (mem 102 0)) / 20 * 20 = nI x := ex
  refine e_mM_travels ⟨m9 hS, m_draw hS ⟨_, rfl, by decide, m9 hS, ma hS rfl rfl rfl v8 ⟨m9 hS, ma hS rfl rfl rfl v8 ⟨m9 hS, ma hS rfl rfl rfl v8 ⟨m9 hS, ?_⟩⟩⟩⟩⟩
  rw [ct, nar0, ex']
  generalize hm7 : ab_w (ab_w (ab_w (ab_row mem 102 (rowD (mem 102))) 106 t 0) 107 t 0) 105 t 0 = mem7
  have o7 : ∀ q, q ≠ 102 → q ≠ 105 → q ≠ 106 → q ≠ 107 → mem7 q = mem q := fun q q1 q2 q3 q4 => by rw [← hm7, ab_w_ne _ _ _ q2, ab_w_ne _ _ _ q4, ab_w_ne _ _ _ q3, row_ne _ _ q1]
  have e7 : mem7 102 = rowD g := by rw [← hm7, ab_w_ne _ _ _ (by decide), ab_w_ne _ _ _ (by decide), ab_w_ne _ _ _ (by decide), row_at, hf]
  have s5 : mem7 105 t = 0 := by rw [← hm7, w_eq]
  have s6 : mem7 106 t = 0 := by rw [← hm7, w_ne _ _ (Or.inl (by decide)), w_ne _ _ (Or.inl (by decide)), w_eq]
  have s7 : mem7 107 t = 0 := by rw [← hm7, w_ne _ _ (Or.inl (by decide)), w_eq]
  have sj : ∀ j, j ≠ t → mem7 105 j = mem 105 j ∧ mem7 106 j = mem 106 j ∧ mem7 107 j = mem 107 j := by
    intro j hj
    rw [← hm7]
    refine ⟨?_, ?_, ?_⟩
    · rw [w_ne _ _ (Or.inr hj), w_ne _ _ (Or.inl (by decide)), w_ne _ _ (Or.inl (by decide)), row_ne _ _ (by decide)]
    · rw [w_ne _ _ (Or.inl (by decide)), w_ne _ _ (Or.inl (by decide)), w_ne _ _ (Or.inr hj), row_ne _ _ (by decide)]
    · rw [w_ne _ _ (Or.inl (by decide)), w_ne _ _ (Or.inr hj), w_ne _ _ (Or.inl (by decide)), row_ne _ _ (by decide)]
  rw [o7 101 (by decide) (by decide) (by decide) (by decide), hh]
  have u1 : ∀ k, k < 13 → rowD g (tI t k) = g (tI t k) := fun k _ => rowD_ne (by unfold tI; omega)
  refine ⟨fun q => ⟨m9 hS, ?_⟩, fun q => ?_⟩
  · have hth : t ≠ home := fun z => q ((homV_eq ht8).mpr z)
    refine m_costsBy (d := d) (mem := mem7) (T := T) (n := n) hS (by rw [e7]; exact TxT_congr (by rw [rowD_ne (by decide), g6]) (fun j hj => by rw [rowD_ne (by omega)]; exact ghi j hj) hx) ht8 hn (by rw [e7, u1 1 (by decide)]; exact gn) hx20 fun mem8 h8 => ⟨_, rfl, m9 hS, ?_⟩
    have e8 : mem8 102 = rowD g := by rw [h8 102 (by decide) (by decide)]; exact e7
    have eC : ctO (oF (mem7 102) 0 T) (mem7 102 (tI t 1)) (nI x) (mem7 102 2) = nI c := by
      rw [e7, oF_congr (f := f) (fun j hj => by rw [rowD_ne (by omega)]; exact ghi j hj), hct, u1 1 (by decide), rowD_ne (by decide), ← ec]
      unfold trC
      rw [← ex, hf]
      rfl
    rw [eC]
    have eA : ask (rowD g (tI t 0)) (rowD g (tI t 2)) (rowD g (tI t 6)) (rowD g 3) (nI c) = nI a := by
      rw [u1 0 (by decide), u1 2 (by decide), u1 6 (by decide), rowD_ne (by decide), ← ea, ← ec]
      rfl
    refine m_asksBy (d := d + 1) (mem := mem8) (s := s) hS ht8 (by omega) (by omega) (by rw [e8, u1 6 (by decide)]; exact gs) ⟨_, rfl, m9 hS, m_of hS (k := 3) ht8 (by decide) ⟨_, rfl, m9 hS, m_put hS (k := 3) ht8 (by decide) ⟨rfl, m9 hS, m_of hS (k := 4) ht8 (by decide) ⟨_, rfl, m9 hS, m_put hS (k := 4) ht8 (by decide) ⟨rfl, ?_⟩⟩⟩⟩⟩
    rw [row_at, row_row, e8, eA, pk_un (by unfold tI; omega), u1 3 (by decide), u1 4 (by decide)]
    generalize hR : upd (upd (rowD g) (tI t 3) (g (tI t 3) + nI c)) (tI t 4) (g (tI t 4) + nI a) = R
    suffices loop : ∀ i, i ≤ 5 → ab_Go l G ol (d + 3) mM_travels (ab_mc mM_travels) (ab_ms mM_travels) (fun r sh rf mem nx _ _ => K r sh rf mem nx) 85 [.ref 101, .int (nI t), .int (nI x), .int (nI c), .int (nI a), .int (nI i)] [] sh rf (ab_row mem8 102 (shf R t i)) nx 0 0 by
      have := loop 5 (Nat.le_refl _)
      rw [shf_5] at this
      exact this
    intro i
    induction i with
    | zero =>
      intro _
      have fin : ∀ v, v = trL cst home f t → K none sh rf (ab_w (ab_row mem8 102 (trF cst home t g)) 105 t v) nx := by
        intro v hv
        refine h _ ?_ ?_ ?_ ?_ ?_ ?_
        · intro q q1 q2 q3 q4 q5 q6
          rw [ab_w_ne _ _ _ q2, row_ne _ _ q1, h8 q q5 q6, o7 q q1 q2 q3 q4]
        · rw [ab_w_ne _ _ _ (by decide), row_at, enext]
        · rw [w_eq]; exact hv
        · rw [w_ne _ _ (Or.inl (by decide)), row_ne _ _ (by decide), h8 _ (by decide) (by decide)]; exact s6
        · rw [w_ne _ _ (Or.inl (by decide)), row_ne _ _ (by decide), h8 _ (by decide) (by decide)]; exact s7
        · intro j hj
          rw [w_ne _ _ (Or.inr hj), w_ne _ _ (Or.inl (by decide)), w_ne _ _ (Or.inl (by decide)), row_ne _ _ (by decide), row_ne _ _ (by decide), row_ne _ _ (by decide), h8 _ (by decide) (by decide), h8 _ (by decide) (by decide), h8 _ (by decide) (by decide)]
          exact sj j hj
      have er : upd (shf R t 0) (tI t 7) (nI a) = trF cst home t g := by
        rw [← trF_row hth, ec, ea, hR]
      rw [if_neg hth, ec, ea] at eL
      refine h_mM_travels_85 ⟨fun _ => ⟨m9 hS, m_put hS (k := 7) ht8 (by decide) ⟨rfl, m9 hS, ?_⟩⟩, fun z => absurd (by decide) z⟩
      rw [row_at, row_row, er, ct]
      refine rd_of hS rfl rfl ⟨fun z => ⟨is_of hS rfl rfl, in_of hS rfl rfl v8, fin _ ?_⟩, fun z => ⟨is_of hS rfl rfl, in_of hS rfl rfl v8, fin _ ?_⟩⟩
      · rw [eL, if_neg (Int32.not_lt.mpr z)]
      · rw [eL, if_pos (Int32.not_le.mp z)]
    | succ i ih =>
      intro hi
      have p1 : (7 : Int32) + nI (i + 1) = nI (7 + (i + 1)) := nI_add 7 (i + 1)
      have p2 : nI (7 + (i + 1)) - 1 = nI (7 + i) := nI_pred _
      refine h_mM_travels_85 ⟨fun z => absurd z (nI_nle (by omega) (by omega)), fun _ => ?_⟩
      rw [p1, p2]
      refine ⟨m9 hS, m_of hS ht8 (by omega) ⟨_, rfl, m9 hS, m_put hS ht8 (by omega) ⟨rfl, ?_⟩⟩⟩
      rw [row_at, row_row, shf_s _ _ _ (by omega), pk_m1]
      exact ih (by omega)
  · have hth : t = home := (homV_eq ht8).mp q
    refine h mem7 (fun q q1 q2 q3 q4 q5 q6 => o7 q q1 q2 q3 q4) ?_ ?_ s6 s7 sj
    · rw [e7, enext, hth, trF_home]; rfl
    · rw [s5, eL, if_pos hth]
def mI (f : Row) (o : Option Nat) : Int32 := match o with
  | none => -1
  | some b => sgf f b
theorem mI_ge (f : Row) (o : Option Nat) : -1 ≤ mI f o := by
  cases o with
  | none => exact Int32.le_refl _
  | some b =>
    obtain ⟨k, hk, e⟩ := sgf_nI f b
    show -1 ≤ sgf f b
    rw [e]
    exact Int32.le_trans (by decide) (nI_pos' (by omega))
set_option maxHeartbeats 2000000 in
theorem m_mostSigns (hS : St sh rf nx) {N home : Nat} {se : Nat → Bool} (hN : N ≤ 8) (h1 : mem 102 1 = nI N) (hh : mem 101 4 = homV home) (hs : ∀ i, i < N → mem 106 i = bv (se i)) (h : K (some (.int (bI (bst (sgf (mem 102)) (exB home se) N)))) sh rf mem nx) : ab_Cx l G ol (d + 4) mM_mostSigns [.ref 101] sh rf mem nx K := by
  have e1 : mem 102 (Int32.toNatClampNeg 1) = nI N := h1
  suffices loop : ∀ r t, t + r = N → ∀ u, ab_Go l G ol (d + 3) mM_mostSigns (ab_mc mM_mostSigns) (ab_ms mM_mostSigns) (fun r sh rf mem nx _ _ => K r sh rf mem nx) 6 [.ref 101, .int (bI (bst (sgf (mem 102)) (exB home se) t)), .int (mI (mem 102) (bst (sgf (mem 102)) (exB home se) t)), .int (nI t), u] [] sh rf mem nx 0 0 from e_mM_mostSigns (loop N 0 (by omega) _)
  intro r
  induction r with
  | zero =>
    intro t ht u
    have : t = N := by omega
    subst this
    exact h_mM_mostSigns_6 (mn hS (pk_in 1 1483 (by decide)) ⟨fun _ => ⟨trivial, h⟩, fun q => absurd (by rw [e1]; exact Int32.le_refl _) q⟩)
  | succ r ih =>
    intro t ht u
    have ht8 : t < 8 := by omega
    have nxt := ih (t + 1) (by omega)
    have ge := mI_ge (mem 102) (bst (sgf (mem 102)) (exB home se) t)
    have ct : Int32.toNatClampNeg (nI t) = t := nI_clamp (by omega)
    refine h_mM_mostSigns_6 (mn hS (pk_in 1 1483 (by decide)) ⟨fun q => absurd q (by rw [e1]; exact nI_ge (by omega) (by omega)), fun _ => ⟨m9 hS, ma hS rfl rfl rfl (vp_in_nI ht8 (by decide)) ?_⟩⟩)
    rw [ct, hs t (by omega), hh, nI_1]
    have skip : exB home se t = true → ∀ u, ab_Go l G ol (d + 3) mM_mostSigns (ab_mc mM_mostSigns) (ab_ms mM_mostSigns) (fun r sh rf mem nx _ _ => K r sh rf mem nx) 6 [.ref 101, .int (bI (bst (sgf (mem 102)) (exB home se) t)), .int (mI (mem 102) (bst (sgf (mem 102)) (exB home se) t)), .int (nI (t + 1)), u] [] sh rf mem nx 0 0 := by
      intro he u
      have := nxt u
      rw [bst, if_pos he] at this
      exact this
    refine ⟨fun q => ⟨fun _ => ⟨fun _ => skip ?_ _, fun z => absurd ge z⟩, fun z => absurd ge z⟩, fun q => ⟨m9 hS, fun q2 => ⟨m9 hS, m_signsOf hS ht8 ⟨_, rfl, ?_⟩⟩, fun q2 => ⟨fun _ => ⟨fun _ => skip ?_ _, fun z => absurd ge z⟩, fun z => absurd ge z⟩⟩⟩
    · exact exB_iff.mpr (Or.inl (Classical.byContradiction fun z => q (bv_0.mpr z)))
    · have hne : ¬ exB home se t = true := fun z => (exB_iff.mp z).elim (bv_0.mp q) (fun z => q2 ((homV_eq ht8).mpr z))
      rw [bst, if_neg hne] at nxt
      cases hb : bst (sgf (mem 102)) (exB home se) t with
      | none =>
        rw [hb] at nxt
        obtain ⟨k, hk, ek⟩ := sgf_nI (mem 102) t
        have : ¬ sgf (mem 102) t ≤ mI (mem 102) none := by
          rw [ek]
          intro z
          exact absurd (Int32.le_trans (nI_pos' (by omega)) z) (show ¬ (0 : Int32) ≤ -1 by decide)
        exact ⟨fun z => absurd z this, fun _ => ⟨fun z => absurd z this, fun _ => nxt _⟩⟩
      | some b =>
        rw [hb] at nxt
        by_cases z : sgf (mem 102) t ≤ sgf (mem 102) b
        · simp only [if_pos z] at nxt
          exact ⟨fun _ => ⟨fun _ => nxt _, fun w => absurd z w⟩, fun w => absurd z w⟩
        · simp only [if_neg z] at nxt
          exact ⟨fun w => absurd w z, fun _ => ⟨fun w => absurd w z, fun _ => nxt _⟩⟩
    · exact exB_iff.mpr (Or.inr ((homV_eq ht8).mp q2))
/-- the reference while it looks -/
def LM (mem : ab_N) (N home : Nat) (ly : Row) (s : Lks) : Prop := mem 102 = s.1 ∧ s.1 1 = nI N ∧ mem 101 4 = homV home ∧ (∀ i, i < N → mem 105 i = ly i) ∧ (∀ i, i < N → mem 106 i = bv (s.2.1 i)) ∧ ∀ i, i < N → mem 107 i = bv (s.2.2 i)
theorem lkR_row {ly : Row} {t : Nat} {f : Row} : upd (upd (upd f (tI t 5) (f (tI t 5) + 1)) (tI t 4) (f (tI t 4) - ly t)) (tI t 2) (f (tI t 2) / 2) = lkR ly t f := by
  funext k
  unfold lkR
  by_cases h2 : k = tI t 2
  · subst h2; rw [pk_us, if_neg (by unfold tI; omega), if_neg (by unfold tI; omega), if_pos (Eq.refl _)]
  · rw [pk_un h2]
    by_cases h4 : k = tI t 4
    · subst h4; rw [pk_us, if_neg (by unfold tI; omega), if_pos (Eq.refl _)]
    · rw [pk_un h4]
      by_cases h5 : k = tI t 5
      · subst h5; rw [pk_us, if_pos (Eq.refl _)]
      · rw [pk_un h5, if_neg h5, if_neg h4, if_neg h2]
theorem bv_set {b : Nat → Bool} {t i : Nat} : bv (setB b t i) = if i = t then 1 else bv (b i) := by
  unfold setB
  by_cases h : i = t
  · rw [if_pos h, if_pos h]; rfl
  · rw [if_neg h, if_neg h]
set_option maxHeartbeats 2000000 in
theorem m_looksAt (hS : St sh rf nx) {N home t : Nat} {ly : Row} {s : Lks} (hN : N ≤ 8) (ht : t < N) (hL : LM mem N home ly s) (h : ∀ mem', FD mem mem' → LM mem' N home ly (lk ly home t s) → K none sh rf mem' nx) : ab_Cx l G ol (d + 2) mM_looksAt [.ref 101, .int (nI t)] sh rf mem nx K := by
  have ht8 : t < 8 := by omega
  have ct : Int32.toNatClampNeg (nI t) = t := nI_clamp (by omega)
  have v8 : vp_in (nI t) 8 := vp_in_nI ht8 (by decide)
  have hL0 := hL
  obtain ⟨l1, l2, l3, l4, l5, l6⟩ := hL
  refine e_mM_looksAt ⟨fun q => absurd q (nI_pos (by omega)), fun _ => ⟨m9 hS, ?_⟩⟩
  rw [l3]
  refine ⟨fun q => ?_, fun q => ⟨m9 hS, ma hS rfl rfl rfl v8 ?_⟩⟩
  · have : lk ly home t s = s := by unfold lk; rw [if_pos (Or.inl ((homV_eq ht8).mp q))]
    exact h mem FD.rfl (by rw [this]; exact hL0)
  · have hth : t ≠ home := fun z => q ((homV_eq ht8).mpr z)
    rw [ct, l5 t ht, nar1]
    refine ⟨fun q2 => ⟨m9 hS, ma hS rfl rfl rfl v8 ⟨m9 hS, ma hS rfl rfl rfl v8 ?_⟩⟩, fun q2 => ?_⟩
    · have hse : ¬ s.2.1 t = true := bv_0.mp q2
      have hc : ¬ (t = home ∨ s.2.1 t = true) := fun z => z.elim hth hse
      rw [w_ne _ _ (Or.inl (by decide)), l4 t ht]
      refine ⟨fun q3 => ?_, fun q3 => ⟨m9 hS, ma hS rfl rfl rfl v8 ⟨m9 hS, m_of hS (k := 5) ht8 (by decide) ⟨_, rfl, m9 hS, m_put hS (k := 5) ht8 (by decide) ⟨rfl, m9 hS, m_of hS (k := 4) ht8 (by decide) ⟨_, rfl, m9 hS, ma hS rfl rfl rfl v8 ⟨m9 hS, m_put hS (k := 4) ht8 (by decide) ⟨rfl, m9 hS, m_of hS (k := 2) ht8 (by decide) ⟨_, rfl, by decide, m9 hS, m_put hS (k := 2) ht8 (by decide) ⟨rfl, ?_⟩⟩⟩⟩⟩⟩⟩⟩⟩⟩
      · have e : lk ly home t s = (s.1, setB s.2.1 t, s.2.2) := by unfold lk; rw [if_neg hc, if_neg (Int32.not_lt.mpr q3)]
        refine h _ (FD.w (by omega)) ?_
        rw [e]
        refine ⟨by rw [ab_w_ne _ _ _ (by decide)]; exact l1, l2, by rw [ab_w_ne _ _ _ (by decide)]; exact l3, fun i hi => by rw [ab_w_ne _ _ _ (by decide)]; exact l4 i hi, fun i hi => ?_, fun i hi => by rw [ab_w_ne _ _ _ (by decide)]; exact l6 i hi⟩
        show _ = bv (setB s.2.1 t i)
        rw [bv_set]
        by_cases z : i = t
        · subst z; rw [w_eq, if_pos (Eq.refl _)]
        · rw [w_ne _ _ (Or.inr z), if_neg z]; exact l5 i hi
      · have e : lk ly home t s = (lkR ly t s.1, setB s.2.1 t, setB s.2.2 t) := by unfold lk; rw [if_neg hc, if_pos (Int32.not_le.mp q3)]
        have em : (ab_w (ab_w mem 106 t 1) 107 t 1) 102 = s.1 := by rw [ab_w_ne _ _ _ (by decide), ab_w_ne _ _ _ (by decide)]; exact l1
        have e5 : (ab_w (ab_w mem 106 t 1) 107 t 1) 105 t = ly t := by rw [w_ne _ _ (Or.inl (by decide)), w_ne _ _ (Or.inl (by decide))]; exact l4 t ht
        have em6 : (ab_w (ab_w mem 106 t 1) 107 t 1) 106 = upd (mem 106) t 1 := by rw [ab_w_ne _ _ _ (by decide), ab_w_self]
        have em7 : (ab_w (ab_w mem 106 t 1) 107 t 1) 107 = upd (mem 107) t 1 := by rw [ab_w_self, ab_w_ne _ _ _ (by decide)]
        have om : ∀ q, q ≠ 106 → q ≠ 107 → (ab_w (ab_w mem 106 t 1) 107 t 1) q = mem q := fun q q1 q2 => by rw [ab_w_ne _ _ _ q2, ab_w_ne _ _ _ q1]
        generalize ab_w (ab_w mem 106 t 1) 107 t 1 = mem6 at *
        simp only [row_at, row_row, ct]
        rw [row_ne _ _ (by decide), em, e5, pk_un (f := s.1) (by unfold tI; omega), pk_un (by unfold tI; omega), pk_un (by unfold tI; omega), lkR_row]
        refine h _ (fun q q1 q2 q3 q4 _ _ => by rw [row_ne _ _ q1, om q q3 q4]) ?_
        rw [e]
        refine ⟨row_at _ _ _, ?_, by rw [row_ne _ _ (by decide), om _ (by decide) (by decide)]; exact l3, fun i hi => by rw [row_ne _ _ (by decide), om _ (by decide) (by decide)]; exact l4 i hi, fun i hi => ?_, fun i hi => ?_⟩
        · show lkR ly t s.1 1 = nI N
          rw [lkR_e (by unfold tI; omega) (by unfold tI; omega) (by unfold tI; omega)]; exact l2
        · rw [row_ne _ _ (by decide), em6]
          show _ = bv (setB s.2.1 t i)
          rw [bv_set]
          by_cases z : i = t
          · subst z; rw [pk_us, if_pos (Eq.refl _)]
          · rw [pk_un z, if_neg z]; exact l5 i hi
        · rw [row_ne _ _ (by decide), em7]
          show _ = bv (setB s.2.2 t i)
          rw [bv_set]
          by_cases z : i = t
          · subst z; rw [pk_us, if_pos (Eq.refl _)]
          · rw [pk_un z, if_neg z]; exact l6 i hi
    · have : lk ly home t s = s := by unfold lk; rw [if_pos (Or.inr (Classical.byContradiction fun z => q2 (bv_0.mpr z)))]
      exact h mem FD.rfl (by rw [this]; exact hL0)
set_option maxHeartbeats 4000000 in
theorem m_day (hS : St sh rf nx) {T N D home : Nat} {f : Row} (hN : N ≤ 8) (hD : D ≤ 100000) (hW : Wf N D f) (hx : TxT f T) (hh : mem 101 4 = homV home) (hf : mem 102 = f)
    (h : ∀ mem', FD mem mem' → mem' 102 = dayF (ctO (oF f 0 T)) home N f → K (some (.int (dayC (ctO (oF f 0 T)) home N f))) sh rf mem' nx) : ab_Cx l G ol (d + 5) mM_day [.ref 101] sh rf mem nx K := by
  generalize hcst : ctO (oF f 0 T) = cst at *
  obtain ⟨Lk, hLk, eLk⟩ := hW.2.2.1
  have vv : ∀ {i : Nat}, i < 1483 → vp_in (nI i) 1483 := fun q => vp_in_nI q (by decide)
  have c1 : Int32.toNatClampNeg (1 : Int32) = 1 := by decide
  have c2 : Int32.toNatClampNeg (2 : Int32) = 2 := by decide
  have c4 : Int32.toNatClampNeg (4 : Int32) = 4 := by decide
  have c5 : Int32.toNatClampNeg (5 : Int32) = 5 := by decide
  -- the day's end
  have stage3 : ∀ mem1, FD mem mem1 → LM mem1 N home (trL cst home f) (dayS cst home N f) → ab_Go l G ol (d + 4) mM_day (ab_mc mM_day) (ab_ms mM_day) (fun r sh rf mem nx _ _ => K r sh rf mem nx) 87 [.ref 101, .int 0, .int 0] [] sh rf mem1 nx 0 0 := by
    intro mem1 F1 L1
    obtain ⟨l1, l2, l3, l4, l5, l6⟩ := L1
    have hfin := h
    unfold dayF dayC at hfin
    generalize dayS cst home N f = s at *
    suffices lp : ∀ r i, i + r = N → ab_Go l G ol (d + 4) mM_day (ab_mc mM_day) (ab_ms mM_day) (fun r sh rf mem nx _ _ => K r sh rf mem nx) 87 [.ref 101, .int (cntB s.2.2 i), .int (nI i)] [] sh rf (ab_row mem1 102 (finP s.1 s.2.2 i)) nx 0 0 by
      have := lp N 0 (by omega)
      rw [finP_0, ← l1, row_id] at this
      exact this
    have ef1 : ∀ i, finP s.1 s.2.2 i 1 = nI N := fun i => by unfold finP; rw [if_neg (by omega)]; exact l2
    intro r
    induction r with
    | zero =>
      intro i hi
      have : i = N := by omega
      subst this
      refine h_mM_day_87 (mn hS (vv (i := 1) (by decide)) ?_)
      rw [c1, row_at, ef1]
      refine ⟨fun _ => mn hS (vv (i := 2) (by decide)) ⟨is_of hS rfl rfl, in_of hS rfl rfl (vv (i := 2) (by decide)), trivial, ?_⟩, fun q => absurd (Int32.le_refl _) q⟩
      rw [c2, row_at, w_row, finP_end]
      exact hfin _ (F1.trans FD.row) (row_at _ _ _)
    | succ r ih =>
      intro i hi
      have hi8 : i < 8 := by omega
      have ci : Int32.toNatClampNeg (nI i) = i := nI_clamp (by omega)
      have v8 : vp_in (nI i) 8 := vp_in_nI hi8 (by decide)
      have nxt := ih (i + 1) (by omega)
      rw [← finP_s, cntB] at nxt
      refine h_mM_day_87 (mn hS (vv (i := 1) (by decide)) ?_)
      rw [c1, row_at, ef1, ci]
      refine ⟨fun q => absurd q (nI_ge (by omega) (by omega)), fun _ => ⟨m9 hS, ma hS rfl rfl rfl v8 ?_⟩⟩
      rw [row_ne _ _ (by decide), l6 i (by omega), nI_1]
      refine ⟨fun q => ⟨m9 hS, ma hS rfl rfl rfl v8 ?_⟩, fun q => ⟨m9 hS, ma hS rfl rfl rfl v8 ?_⟩⟩
      · rw [row_ne _ _ (by decide), l6 i (by omega)]
        refine ⟨fun _ => ⟨m9 hS, m_of hS (k := 6) hi8 (by decide) ⟨_, rfl, m9 hS, m_put hS (k := 6) hi8 (by decide) ⟨rfl, ?_⟩⟩⟩, fun z => absurd q z⟩
        rw [row_row, row_at]
        rw [if_neg (bv_0.mp q), if_neg (bv_0.mp q)] at nxt
        exact nxt
      · rw [row_ne _ _ (by decide), l6 i (by omega)]
        refine ⟨fun z => absurd z q, fun _ => ⟨m9 hS, m_put hS (k := 6) hi8 (by decide) ⟨rfl, ?_⟩⟩⟩
        have hc : s.2.2 i = true := Classical.byContradiction fun z => q (bv_0.mpr z)
        rw [row_row, row_at]
        rw [if_pos hc, if_pos hc] at nxt
        exact nxt
  -- the looks
  have stage2 : ∀ mem1, FD mem mem1 → LM mem1 N home (trL cst home f) (trAll cst home f N, noB, noB) → ∀ u, ab_Go l G ol (d + 4) mM_day (ab_mc mM_day) (ab_ms mM_day) (fun r sh rf mem nx _ _ => K r sh rf mem nx) 25 [.ref 101, .int 0, u] [] sh rf mem1 nx 0 0 := by
    intro mem1 F1 L1 u
    have t4 : trAll cst home f N 4 = nI Lk := (trAll_keep (by decide) (by decide) N).trans eLk
    have t5 : trAll cst home f N 5 = f 5 := trAll_keep (by decide) (by decide) N
    have cl4 : Int32.toNatClampNeg (f 4) = Lk := by rw [eLk]; exact nI_clamp (by omega)
    by_cases m5 : f 5 = 0
    · have ed : dayS cst home N f = lots (trL cst home f) home N (trAll cst home f N, noB, noB) (min Lk N) := by unfold dayS; rw [if_pos m5, cl4]
      generalize hs0 : (trAll cst home f N, noB, noB) = s0 at *
      have s04 : s0.1 4 = nI Lk := by rw [← hs0]; exact t4
      have s05 : s0.1 5 = 0 := by rw [← hs0]; exact t5.trans m5
      suffices lp : ∀ r i, i + r = min Lk N → ∀ mem2, FD mem mem2 → LM mem2 N home (trL cst home f) (lots (trL cst home f) home N s0 i) → ∀ u, ab_Go l G ol (d + 4) mM_day (ab_mc mM_day) (ab_ms mM_day) (fun r sh rf mem nx _ _ => K r sh rf mem nx) 25 [.ref 101, .int (nI i), u] [] sh rf mem2 nx 0 0 from lp (min Lk N) 0 (by omega) mem1 F1 (by rw [lots_0]; exact L1) u
      intro r
      induction r with
      | zero =>
        intro i hi mem2 F2 L2 u
        have e : i = min Lk N := by omega
        rw [← e] at ed
        have st := stage3 mem2 F2 (by rw [ed]; exact L2)
        have q4 : mem2 102 4 = nI Lk := by rw [L2.1, lots_keep (by decide) (by decide)]; exact s04
        have q1 : mem2 102 1 = nI N := by rw [L2.1]; exact L2.2.1
        refine h_mM_day_25 (mn hS (vv (i := 4) (by decide)) ?_)
        rw [c4, q4]
        refine ⟨fun _ => st, fun q => mn hS (vv (i := 1) (by decide)) ?_⟩
        rw [c1, q1]
        refine ⟨fun _ => st, fun q2 => ?_⟩
        exfalso
        rcases Nat.le_total Lk N with g | g
        · exact q (nI_le (by omega) (by omega))
        · exact q2 (nI_le (by omega) (by omega))
      | succ r ih =>
        intro i hi mem2 F2 L2 u
        have q4 : mem2 102 4 = nI Lk := by rw [L2.1, lots_keep (by decide) (by decide)]; exact s04
        have q5 : mem2 102 5 = 0 := by rw [L2.1, lots_keep (by decide) (by decide)]; exact s05
        have q1 : mem2 102 1 = nI N := by rw [L2.1]; exact L2.2.1
        have nxt := ih (i + 1) (by omega)
        rw [lots_s] at nxt
        generalize lots (trL cst home f) home N s0 i = s at *
        refine h_mM_day_25 (mn hS (vv (i := 4) (by decide)) ?_)
        rw [c4, q4]
        refine ⟨fun q => absurd q (nI_ge (by omega) (by omega)), fun _ => mn hS (vv (i := 1) (by decide)) ?_⟩
        rw [c1, q1]
        refine ⟨fun q => absurd q (nI_ge (by omega) (by omega)), fun _ => mn hS (vv (i := 5) (by decide)) ?_⟩
        rw [c5, q5]
        refine ⟨fun _ => ⟨m9 hS, m_draw hS ⟨_, rfl, mn hS (vv (i := 1) (by decide)) ?_⟩⟩, fun q => absurd q (by decide)⟩
        rw [row_at, rowD_ne (by decide), q1]
        obtain ⟨t, ht, et⟩ := rem_dval (drw (mem2 102 0)) (n := N) (by omega) (by omega)
        have et' : dval (drw (mem2 102 0)) - dval (drw (mem2 102 0)) / nI N * nI N = nI t := et
        rw [et']
        have hp : pick N (s.1 0) = t := by unfold pick; rw [← L2.1, et, cl_nI (by omega)]
        refine ⟨nI_ne0 (by omega) (by omega), m9 hS, m_looksAt (d := d + 2) (t := t) (s := (rowD s.1, s.2.1, s.2.2)) (ly := trL cst home f) (home := home) hS hN ht ?_ fun mem3 F3 L3 => ⟨rfl, ?_⟩⟩
        · obtain ⟨l1, l2, l3, l4, l5, l6⟩ := L2
          refine ⟨by rw [row_at, l1], by show rowD s.1 1 = nI N; rw [rowD_ne (by decide)]; exact l2, by rw [row_ne _ _ (by decide)]; exact l3, fun i hi => by rw [row_ne _ _ (by decide)]; exact l4 i hi, fun i hi => by rw [row_ne _ _ (by decide)]; exact l5 i hi, fun i hi => by rw [row_ne _ _ (by decide)]; exact l6 i hi⟩
        · rw [nI_1]
          refine nxt mem3 ((F2.trans FD.row).trans F3) ?_ _
          unfold lot1
          rw [hp]; exact L3
    · have m51 : f 5 = 1 := by
        rcases hW.2.2.2.1 with g | g
        · exact absurd g m5
        · exact g
      have ed : dayS cst home N f = sgns (trL cst home f) home N (trAll cst home f N, noB, noB) (min Lk N) := by unfold dayS; rw [if_neg m5, cl4]
      generalize hs0 : (trAll cst home f N, noB, noB) = s0 at *
      have s04 : s0.1 4 = nI Lk := by rw [← hs0]; exact t4
      have s05 : s0.1 5 = 1 := by rw [← hs0]; exact t5.trans m51
      suffices lp : ∀ r i, i + r = min Lk N → ∀ mem2, FD mem mem2 → LM mem2 N home (trL cst home f) (sgns (trL cst home f) home N s0 i) → ∀ u, ab_Go l G ol (d + 4) mM_day (ab_mc mM_day) (ab_ms mM_day) (fun r sh rf mem nx _ _ => K r sh rf mem nx) 25 [.ref 101, .int (nI i), u] [] sh rf mem2 nx 0 0 from lp (min Lk N) 0 (by omega) mem1 F1 (by rw [sgns_0]; exact L1) u
      intro r
      induction r with
      | zero =>
        intro i hi mem2 F2 L2 u
        have e : i = min Lk N := by omega
        rw [← e] at ed
        have st := stage3 mem2 F2 (by rw [ed]; exact L2)
        have q4 : mem2 102 4 = nI Lk := by rw [L2.1, sgns_keep (by decide)]; exact s04
        have q1 : mem2 102 1 = nI N := by rw [L2.1]; exact L2.2.1
        refine h_mM_day_25 (mn hS (vv (i := 4) (by decide)) ?_)
        rw [c4, q4]
        refine ⟨fun _ => st, fun q => mn hS (vv (i := 1) (by decide)) ?_⟩
        rw [c1, q1]
        refine ⟨fun _ => st, fun q2 => ?_⟩
        exfalso
        rcases Nat.le_total Lk N with g | g
        · exact q (nI_le (by omega) (by omega))
        · exact q2 (nI_le (by omega) (by omega))
      | succ r ih =>
        intro i hi mem2 F2 L2 u
        have q4 : mem2 102 4 = nI Lk := by rw [L2.1, sgns_keep (by decide)]; exact s04
        have q5 : mem2 102 5 = 1 := by rw [L2.1, sgns_keep (by decide)]; exact s05
        have q1 : mem2 102 1 = nI N := by rw [L2.1]; exact L2.2.1
        have nxt := ih (i + 1) (by omega)
        rw [sgns_s] at nxt
        generalize sgns (trL cst home f) home N s0 i = s at *
        refine h_mM_day_25 (mn hS (vv (i := 4) (by decide)) ?_)
        rw [c4, q4]
        refine ⟨fun q => absurd q (nI_ge (by omega) (by omega)), fun _ => mn hS (vv (i := 1) (by decide)) ?_⟩
        rw [c1, q1]
        refine ⟨fun q => absurd q (nI_ge (by omega) (by omega)), fun _ => mn hS (vv (i := 5) (by decide)) ?_⟩
        rw [c5, q5]
        refine ⟨fun q => absurd rfl q, fun _ => ⟨m9 hS, m_mostSigns (d := d) (se := s.2.1) hS hN q1 L2.2.2.1 L2.2.2.2.2.1 ⟨_, rfl, m9 hS, ?_⟩⟩⟩
        rw [L2.1]
        unfold sgn1 at nxt
        cases eb : bst (sgf s.1) (exB home s.2.1) N with
        | none =>
          rw [eb] at nxt
          refine e_mM_looksAt ⟨fun _ => ⟨rfl, ?_⟩, fun z => absurd (by decide) z⟩
          rw [nI_1]
          exact nxt mem2 F2 L2 _
        | some t =>
          rw [eb] at nxt
          have ht := bst_lt eb
          refine m_looksAt (d := d + 2) (t := t) (s := s) (ly := trL cst home f) (home := home) hS hN ht L2 fun mem3 F3 L3 => ⟨rfl, ?_⟩
          rw [nI_1]
          exact nxt mem3 (F2.trans F3) L3 _
  -- the travelling
  suffices lp : ∀ r i, i + r = N → ∀ mem1, FD mem mem1 → mem1 102 = trAll cst home f i → (∀ j, j < i → mem1 105 j = trL cst home f j ∧ mem1 106 j = 0 ∧ mem1 107 j = 0) → ∀ u, ab_Go l G ol (d + 4) mM_day (ab_mc mM_day) (ab_ms mM_day) (fun r sh rf mem nx _ _ => K r sh rf mem nx) 2 [.ref 101, .int (nI i), u] [] sh rf mem1 nx 0 0 from e_mM_day (lp N 0 (by omega) mem FD.rfl hf (fun j q => by omega) _)
  intro r
  induction r with
  | zero =>
    intro i hi mem1 F1 e1 hj u
    have : i = N := by omega
    subst this
    have q1 : mem1 102 1 = nI i := by rw [e1, trAll_keep (by decide) (by decide)]; exact hW.1
    refine h_mM_day_2 (mn hS (vv (i := 1) (by decide)) ?_)
    rw [c1, q1]
    refine ⟨fun _ => stage2 mem1 F1 ⟨e1, by rw [← e1]; exact q1, by rw [F1 101 (by decide) (by decide) (by decide) (by decide) (by decide) (by decide)]; exact hh, fun j q => (hj j q).1, fun j q => (hj j q).2.1, fun j q => (hj j q).2.2⟩ _, fun q => absurd (Int32.le_refl _) q⟩
  | succ r ih =>
    intro i hi mem1 F1 e1 hj u
    have q1 : mem1 102 1 = nI N := by rw [e1, trAll_keep (by decide) (by decide)]; exact hW.1
    refine h_mM_day_2 (mn hS (vv (i := 1) (by decide)) ?_)
    rw [c1, q1]
    refine ⟨fun q => absurd q (nI_ge (by omega) (by omega)), fun _ => ⟨m9 hS, m_travels (d := d) (T := T) (D := D) (home := home) (f := f) hS hN hD hW hx (by omega) (by rw [F1 101 (by decide) (by decide) (by decide) (by decide) (by decide) (by decide)]; exact hh) (by rw [hcst]; exact e1) fun mem2 F2 a1 a2 a3 a4 a5 => ⟨rfl, ?_⟩⟩⟩
    rw [hcst] at a1 a2
    rw [nI_1]
    refine ih (i + 1) (by omega) mem2 (F1.trans F2) a1 (fun j q => ?_) _
    by_cases z : j = i
    · subst z; exact ⟨a2, a3, a4⟩
    · obtain ⟨b1, b2, b3⟩ := a5 j z
      rw [b1, b2, b3]
      exact hj j (by omega)
theorem m_goesOn (hS : St sh rf nx) {T N D home n : Nat} {f : Row} (hN : N ≤ 8) (hn : D + n ≤ 100000) (hW : Wf N D f) (hx : TxT f T) (hh : mem 101 4 = homV home) (hf : mem 102 = f)
    (h : ∀ mem', FD mem mem' → mem' 102 = (pasF (ctO (oF f 0 T)) home N f n).1 → K (some (.int (pasF (ctO (oF f 0 T)) home N f n).2)) sh rf mem' nx) : ab_Cx l G ol (d + 6) mM_goesOn [.ref 101, .int (nI n)] sh rf mem nx K := by
  suffices lp : ∀ r i, i + r = n → ∀ mem1, FD mem mem1 → mem1 102 = (pasF (ctO (oF f 0 T)) home N f i).1 → ab_Go l G ol (d + 5) mM_goesOn (ab_mc mM_goesOn) (ab_ms mM_goesOn) (fun r sh rf mem nx _ _ => K r sh rf mem nx) 4 [.ref 101, .int (nI n), .int (pasF (ctO (oF f 0 T)) home N f i).2, .int (nI i)] [] sh rf mem1 nx 0 0 from e_mM_goesOn (by have := lp n 0 (by omega) mem FD.rfl (by rw [pasF_0]; exact hf); rw [pasF_0] at this; exact this)
  intro r
  induction r with
  | zero =>
    intro i hi mem1 F1 e1
    have : i = n := by omega
    subst this
    exact h_mM_goesOn_4 ⟨fun _ => ⟨trivial, h mem1 F1 e1⟩, fun q => absurd (Int32.le_refl _) q⟩
  | succ r ih =>
    intro i hi mem1 F1 e1
    have ihi := ih (i + 1) (by omega)
    rw [pasF_s] at ihi
    obtain ⟨W1, _, W3⟩ := hW.pass (home := home) (ctO_rg (oF f 0 T)) i (by omega)
    have hi111 : ∀ j, 111 ≤ j → (pasF (ctO (oF f 0 T)) home N f i).1 j = f j := fun j hj => pasF_hi hN hj i
    have hx1 : TxT (pasF (ctO (oF f 0 T)) home N f i).1 T := TxT_congr (W3 6 (by omega)) hi111 hx
    have eo : oF (pasF (ctO (oF f 0 T)) home N f i).1 0 T = oF f 0 T := oF_congr hi111
    refine h_mM_goesOn_4 ⟨fun q => absurd q (nI_ge (by omega) (by omega)), fun _ => ⟨m9 hS, m_day (d := d) (home := home) (D := D + i) (T := T) hS hN (by omega) W1 hx1 (by rw [F1 101 (by decide) (by decide) (by decide) (by decide) (by decide) (by decide)]; exact hh) e1 fun mem2 F2 e2 => ⟨_, rfl, ?_⟩⟩⟩
    rw [eo] at e2 ⊢
    rw [nI_1]
    exact ihi mem2 (F1.trans F2) e2
end MD
