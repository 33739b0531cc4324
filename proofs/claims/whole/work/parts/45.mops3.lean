/-! THE REFERENCE: flat, standsOut, bentBy -/
def smN (f : Row) : Nat → Nat
  | 0 => 0
  | n + 1 => smN f n + cn f n
theorem smF_nI {N D : Nat} {f : Row} (hD : D ≤ 100000) (hW : Wf N D f) : ∀ n, n ≤ N → smF f 4 n = nI (smN f n)
  | 0, _ => rfl
  | n + 1, h => by
    unfold smF smN
    rw [smF_nI hD hW n (by omega), (cn_eq (by omega) hW (by omega : n < N)).1, nI_add]
theorem smN_le {f g : Row} {N k : Nat} (h : ∀ i, i < N → cn f i ≤ cn g i ∧ cn g i ≤ cn f i + 1138 * k) : ∀ n, n ≤ N → smN f n ≤ smN g n ∧ smN g n ≤ smN f n + n * (1138 * k)
  | 0, _ => ⟨Nat.le_refl _, by unfold smN; omega⟩
  | n + 1, hn => by
    have ih := smN_le h n (by omega)
    have := h n (by omega)
    unfold smN
    rw [Nat.succ_mul]
    omega
theorem dv_up {M b : Nat} (hb : 0 < b) : (if M % b = 0 then M else M - M % b + b) / b = (M + b - 1) / b := by
  have e := Nat.div_add_mod M b
  have hr := Nat.mod_lt M hb
  generalize hq : M / b = q at *
  generalize M % b = r at *
  by_cases r0 : r = 0
  · rw [if_pos r0]
    subst r0
    have : M = b * q := by omega
    rw [this, Nat.mul_div_cancel_left _ hb, show b * q + b - 1 = (b - 1) + b * q by omega, Nat.add_mul_div_left _ _ hb, Nat.div_eq_of_lt (by omega)]
    omega
  · rw [if_neg r0, show M - r + b = b * (q + 1) by rw [Nat.mul_succ]; omega, Nat.mul_div_cancel_left _ hb, show M + b - 1 = (r - 1) + b * (q + 1) by rw [Nat.mul_succ]; omega, Nat.add_mul_div_left _ _ hb, Nat.div_eq_of_lt (by omega)]
    omega
theorem up_div {M b : Nat} (hb : 0 < b) (hM : M < 2 ^ 30) (hb2 : b < 2 ^ 20) : (if rem (nI M) (nI b) = 0 then nI M else nI M - rem (nI M) (nI b) + nI b) / nI b = (nI M + nI b - 1) / nI b := by
  have hr := Nat.mod_lt M hb
  have hrM := Nat.mod_le M b
  have e1 : (if rem (nI M) (nI b) = 0 then nI M else nI M - rem (nI M) (nI b) + nI b) = nI (if M % b = 0 then M else M - M % b + b) := by
    rw [rem_nI (by omega) hb (by omega)]
    by_cases z : M % b = 0
    · rw [if_pos z, if_pos (by rw [z]; rfl)]
    · rw [if_neg z, if_neg (nI_ne0 (by omega) (by omega)), pk_sub hrM, nI_add]
  rw [e1, nI_add, show (1 : Int32) = nI 1 from rfl, pk_sub (by omega), pk_div (by split <;> omega) hb (by omega), pk_div (by omega) hb (by omega), dv_up hb]
/-- the sum of the differences, as a number that doesn't wrap around -/
def PB (pl : Row) (z : Nat) : Prop := ∀ k, k < z → pl k = -1000000005 ∨ (-99999 ≤ (pl k).toInt ∧ (pl k).toInt ≤ 99999)
def dA (c : Nat) (v : Int32) : Nat := ((c : Int) - v.toInt).natAbs
def dfN (ct : Ct) (N t : Nat) (g : Row) (pl : Row) : Nat → Nat
  | 0 => 0
  | k + 1 => dfN ct N t g pl k + (if pl k = -1000000005 then 0 else dA (cn (pasF ct 8 N g k).1 t) (pl k))
theorem dA_le {c : Nat} {v : Int32} (hc : c ≤ 11900000) (hv : -99999 ≤ v.toInt ∧ v.toInt ≤ 99999) : dA c v ≤ 12000000 := by
  unfold dA; omega
theorem abs32 {c : Nat} {v : Int32} (hc : c ≤ 11900000) (hv : -99999 ≤ v.toInt ∧ v.toInt ≤ 99999) : absI (nI c - v) = nI (dA c v) := by
  have h1 : (nI c - v).toInt = (c : Int) - v.toInt := by
    rw [Int32.toInt_sub, nI_toInt (by omega)]
    exact Int.bmod_eq_of_le (by omega) (by omega)
  have hd := dA_le hc hv
  unfold absI
  apply Int32.toInt_inj.mp
  rw [nI_toInt (by omega)]
  by_cases z : 0 ≤ nI c - v
  · rw [if_pos z, h1]
    rw [Int32.le_iff_toInt_le, h1, show (0 : Int32).toInt = 0 by decide] at z
    unfold dA; omega
  · rw [if_neg z, Int32.toInt_neg, h1]
    rw [Int32.le_iff_toInt_le, h1, show (0 : Int32).toInt = 0 by decide] at z
    rw [Int.bmod_eq_of_le (by omega) (by omega)]
    unfold dA; omega
theorem abs64 {c : Nat} {v : Int32} (hc : c ≤ 11900000) (hv : -99999 ≤ v.toInt ∧ v.toInt ≤ 99999) : ((0 : Int32) ≤ lg_cmp (Int32.toInt64 v - Int32.toInt64 (nI c)) (Int64.ofNat 0) → Int32.toInt64 v - Int32.toInt64 (nI c) = lN (dA c v)) ∧ (¬ (0 : Int32) ≤ lg_cmp (Int32.toInt64 v - Int32.toInt64 (nI c)) (Int64.ofNat 0) → -(Int32.toInt64 v - Int32.toInt64 (nI c)) = lN (dA c v)) := by
  have hd := dA_le hc hv
  have h1 : (Int32.toInt64 v - Int32.toInt64 (nI c)).toInt = v.toInt - (c : Int) := by
    rw [Int64.toInt_sub, Int32.toInt_toInt64, Int32.toInt_toInt64, nI_toInt (by omega)]
    exact Int.bmod_eq_of_le (by omega) (by omega)
  rw [lg_cmp_ge, Int64.le_iff_toInt_le, h1, show (Int64.ofNat 0).toInt = 0 by decide]
  constructor
  · intro z
    apply Int64.toInt_inj.mp
    rw [h1, lN_toInt (by omega)]
    unfold dA; omega
  · intro z
    apply Int64.toInt_inj.mp
    rw [Int64.toInt_neg, h1, lN_toInt (by omega), Int.bmod_eq_of_le (by omega) (by omega)]
    unfold dA; omega
theorem cn_b {ct : Ct} {N D t k : Nat} {g : Row} (hct : CtR ct) (hW : Wf N D g) (hD : D ≤ 9999) (ht : t < N) (hk : k ≤ 24) : (pasF ct 8 N g k).1 (tI t 4) = nI (cn (pasF ct 8 N g k).1 t) ∧ cn (pasF ct 8 N g k).1 t ≤ 11900000 := by
  have h := (hW.pass (home := 8) hct k (by omega)).1
  have := cn_eq (by omega) h ht
  exact ⟨this.1, by omega⟩
theorem dfS_nI {ct : Ct} {N D t z : Nat} {g pl : Row} (hct : CtR ct) (hW : Wf N D g) (hD : D ≤ 9999) (ht : t < N) (hz : z ≤ 24) (hp : PB pl z) : ∀ k, k ≤ z → dfS ct N t g pl k = nI (dfN ct N t g pl k) ∧ dfN ct N t g pl k ≤ k * 12000000
  | 0, _ => ⟨rfl, Nat.le_refl _⟩
  | k + 1, h => by
    obtain ⟨a, b⟩ := dfS_nI hct hW hD ht hz hp k (by omega)
    obtain ⟨c1, c2⟩ := cn_b (t := t) hct hW hD ht (by omega : k ≤ 24)
    unfold dfS dfN
    rw [a, Nat.succ_mul]
    by_cases e : pl k = -1000000005
    · rw [if_pos e, if_pos e, Int32.add_zero, Nat.add_zero]
      exact ⟨rfl, Nat.le_trans b (Nat.le_add_right _ _)⟩
    · have hv := (hp k (by omega)).resolve_left e
      rw [if_neg e, if_neg e, c1, abs32 c2 hv, nI_add]
      exact ⟨rfl, Nat.add_le_add b (dA_le c2 hv)⟩
section MG
variable {l : Launch} {G : ab_G} {ol : ab_Ol} {d : Nat} {sh : ab_S} {rf : ab_R} {mem : ab_N} {nx : Nat} {K : ab_K} {N : Nat} {f : Row}
theorem m_flat (hS : St sh rf nx) {D T : Nat} (hC : TC mem N D T f) {n : Int32} (hB : ¬ (1 ≤ n ∧ n ≤ 60) → K (some (.int (-1000000001))) sh rf mem nx) (hZ : (1 ≤ n ∧ n ≤ 60) → N = 0 → K (some (.int (-1000000005))) sh rf mem nx) (hK : ∀ k, 1 ≤ k → k ≤ 60 → n = nI k → 0 < N → ∀ mem', FS mem mem' → K (some (.int ((smF (pasF (ctO (oF f 0 T)) 8 N f k).1 4 N - smF f 4 N + nI (k * N) - 1) / nI (k * N)))) sh rf mem' nx) : ab_Cx l G ol (d + 7) mM_flat [.ref 101, .int n] sh rf mem nx K := by
  obtain ⟨hN, hf, h4, hW, hD, hx⟩ := hC
  have h1 : mem 102 1 = nI N := by rw [hf]; exact hW.1
  have c1 : Int32.toNatClampNeg (1 : Int32) = 1 := by decide
  refine e_mM_flat ⟨by decide, m_in ⟨_, rfl, br1 (fun q => mn hS (pk_in 1 1483 (by decide)) ?_) (fun q => ⟨trivial, hB q⟩)⟩⟩
  rw [c1, h1]
  obtain ⟨k, hk, rfl⟩ := rg_of (M := 60) (by omega) ⟨Int32.le_trans (by decide) q.1, q.2⟩
  have k1 : 1 ≤ k := (nI_leI (a := 1) (by omega) (by omega)).mp q.1
  refine ⟨fun z => ⟨m9 hS, m_thinks hS hf fun mem1 T1 => ⟨rfl, m9 hS, m_sumOf hS (k := 4) hN (by decide) (by rw [T1.1.2]; exact h1) ⟨_, rfl, m9 hS, m_goT (d := d) (m0 := mem) (home := 8) (D := D) (T := T) hS hN (T1.th hf) hx rfl (by omega) (by rw [T1.1.2]; exact hf) hW (by rw [T1.1.1 101 (by decide) (by decide) (by decide) (by decide)]; exact h4) fun mem2 T2 e101 e2 => ⟨_, rfl, m9 hS, m_sumOf hS (k := 4) hN (by decide) ?_ ⟨_, rfl, m9 hS, m_putsBack hS hf h4 T2 fun mem3 T3 => ⟨rfl, mn hS (pk_in 1 1483 (by decide)) ⟨by decide, ?_⟩⟩⟩⟩⟩⟩⟩, fun z => ⟨trivial, hZ q ((nI_eq (b := 0) (by omega) (by omega)).mp z)⟩⟩
  · rw [e2]; exact (hW.pass (home := 8) (ctO_rg (oF f 0 T)) k (by omega)).1.1
  · have N0 : 0 < N := by
      rcases Nat.eq_zero_or_pos N with g | g
      · exact absurd (by rw [g]; rfl) z
      · exact g
    have kN : k * N ≤ 480 := Nat.mul_le_mul (by omega : k ≤ 60) hN
    have kp : 0 < k * N := Nat.mul_pos (by omega) N0
    rw [T3.1.2, h1, pk_mul, e2, T1.1.2, hf]
    have ne : ¬ nI (k * N) = 0 := nI_ne0 kp (by omega)
    obtain ⟨W1, W2, _⟩ := hW.pass (home := 8) (ctO_rg (oF f 0 T)) k (by omega)
    have hk3 := hK k k1 hk rfl N0 mem3 T3.1
    have s1 := smF_nI (by omega) W1 N (Nat.le_refl _)
    have s2 := smF_nI (by omega) hW N (Nat.le_refl _)
    obtain ⟨l1, l2⟩ := smN_le W2 N (Nat.le_refl _)
    have b1 : N * (1138 * k) ≤ 8 * (1138 * 60) := Nat.mul_le_mul hN (Nat.mul_le_mul (Nat.le_refl _) (by omega))
    rw [s1, s2, pk_sub l1] at hk3 ⊢
    refine m_upTo ne ⟨_, rfl, ne, trivial, ?_⟩
    rw [up_div kp (by omega) (by omega)]
    exact hk3
theorem m_isOut (hS : St sh rf nx) {t : Nat} (hN : N ≤ 8) (ht : t < N) (hf : mem 102 = f) (h1 : f 1 = nI N) (hy : alone f N t → K (some (.int 1)) sh rf mem nx) (hn : ¬ alone f N t → K (some (.int 0)) sh rf mem nx) : ab_Cx l G ol (d + 4) mM_isOut [.ref 101, .int (nI t)] sh rf mem nx K := by
  have c1 : Int32.toNatClampNeg (1 : Int32) = 1 := by decide
  refine e_mM_isOut ⟨m9 hS, m_signsOf hS (by omega) ⟨_, rfl, ?_⟩⟩
  rw [hf]
  suffices loop : ∀ r k, k + r = N → (∀ i, i < k → i ≠ t → sgf f i < sgf f t) → ab_Go l G ol (d + 3) mM_isOut (ab_mc mM_isOut) (ab_ms mM_isOut) (fun r sh rf mem nx _ _ => K r sh rf mem nx) 8 [.ref 101, .int (nI t), .int (sgf f t), .int (nI k)] [] sh rf mem nx 0 0 from loop N 0 (by omega) (fun i q => by omega)
  intro r
  induction r with
  | zero =>
    intro k hk ha
    have : k = N := by omega
    subst this
    refine h_mM_isOut_8 (mn hS (pk_in 1 1483 (by decide)) ?_)
    rw [c1, hf, h1]
    refine ⟨fun _ => mn hS (pk_in 1 1483 (by decide)) ?_, fun z => absurd (Int32.le_refl _) z⟩
    rw [hf, h1]
    refine ⟨fun z => ⟨Or.inr rfl, hy ?_⟩, fun z => ⟨fun y => ⟨Or.inl rfl, hn fun al => ?_⟩, fun y => ⟨Or.inr rfl, hy ?_⟩⟩⟩
    · have : 1 < k := (nI_ltI (a := 1) (by decide) (by omega)).mp z
      unfold alone; rw [if_neg (by omega)]; exact ha
    · have : ¬ 1 < k := fun g => z (nI_lt (a := 1) g (by omega))
      unfold alone at al
      rw [if_pos (by omega)] at al
      exact absurd al (Int32.not_lt.mpr y)
    · have : ¬ 1 < k := fun g => z (nI_lt (a := 1) g (by omega))
      unfold alone
      rw [if_pos (by omega)]
      exact Int32.not_le.mp y
  | succ r ih =>
    intro k hk ha
    refine h_mM_isOut_8 (mn hS (pk_in 1 1483 (by decide)) ?_)
    rw [c1, hf, h1, nI_1]
    refine ⟨fun z => absurd z (nI_ge (by omega) (by omega)), fun _ => ⟨fun z => ih (k + 1) (by omega) fun i hi hit => ?_, fun z => ⟨m9 hS, m_signsOf hS (by omega) ⟨_, rfl, ?_⟩⟩⟩⟩
    · have : k = t := (nI_eq (by omega) (by omega)).mp z
      exact ha i (by omega) hit
    · have hkt : k ≠ t := fun e => z (by rw [e])
      rw [hf]
      refine ⟨fun y => ih (k + 1) (by omega) fun i hi hit => ?_, fun y => ⟨Or.inl rfl, hn fun al => ?_⟩⟩
      · by_cases e : i = k
        · rw [e]; exact y
        · exact ha i (by omega) hit
      · unfold alone at al
        rw [if_neg (by omega)] at al
        exact y (al k (by omega) hkt)
theorem m_dayT (hS : St sh rf nx) {m0 : ab_N} {T D home : Nat} {g : Row} (hN : N ≤ 8) (hT : Th m0 mem f) (hx : TxT f T) (h6 : g 6 = f 6) (hD : D ≤ 100000) (hg : mem 102 = g) (hW : Wf N D g) (hh : mem 101 4 = homV home)
    (h : ∀ mem' x, Th m0 mem' f → mem' 101 = mem 101 → mem' 102 = dayF (ctO (oF f 0 T)) home N g → K (some (.int x)) sh rf mem' nx) : ab_Cx l G ol (d + 5) mM_day [.ref 101] sh rf mem nx K := by
  have hi : ∀ k, 111 ≤ k → g k = f k := fun k hk => by rw [← hg]; exact hT.2.2.2 k hk
  have eo : oF g 0 T = oF f 0 T := oF_congr hi
  refine m_day (d := d) (home := home) (T := T) (D := D) hS hN hD hW (TxT_congr h6 hi hx) hh hg fun mem' F e => ?_
  rw [eo] at e
  exact h mem' _ (hT.FD F fun k hk => by rw [e, dayF_hi hN hk]; exact hi k hk) (F 101 (by decide) (by decide) (by decide) (by decide) (by decide) (by decide)) e
theorem m_standsOut (hS : St sh rf nx) {D T : Nat} (hC : TC mem N D T f) {t n : Int32} (hB : ¬ ((0 ≤ t ∧ t ≤ nI N - 1) ∧ (1 ≤ n ∧ n ≤ 60)) → K (some (.int (-1000000001))) sh rf mem nx) (hK : ∀ i k, i < N → 1 ≤ k → k ≤ 60 → t = nI i → n = nI k → ∀ mem', FS mem mem' → K (some (.int (soF (ctO (oF f 0 T)) N f i k))) sh rf mem' nx) : ab_Cx l G ol (d + 7) mM_standsOut [.ref 101, .int t, .int n] sh rf mem nx K := by
  obtain ⟨hN, hf, h4, hW, hD, hx⟩ := hC
  have h1 : mem 102 1 = nI N := by rw [hf]; exact hW.1
  refine e_mM_standsOut ⟨m9 hS, m_isOne hS h1 ⟨_, rfl, br0 (fun q => ⟨by decide, m_in ⟨_, rfl, br1 (fun q2 => ⟨m9 hS, m_thinks hS hf fun mem1 T1 => ⟨rfl, ?_⟩⟩) (fun q2 => ⟨trivial, hB fun z => q2 z.2⟩)⟩⟩) (fun q => ⟨trivial, hB fun z => q z.1⟩)⟩⟩
  obtain ⟨i, hi, rfl⟩ := ix_of (by omega) q
  obtain ⟨k, hk, rfl⟩ := rg_of (M := 60) (by omega) ⟨Int32.le_trans (by decide) q2.1, q2.2⟩
  have k1 : 1 ≤ k := (nI_leI (a := 1) (by omega) (by omega)).mp q2.1
  generalize hcst : ctO (oF f 0 T) = cst at *
  have hct : CtR cst := by rw [← hcst]; exact ctO_rg _
  suffices loop : ∀ r m, m + r = k → ∀ mem', Th mem mem' f → mem' 101 4 = homV 8 → mem' 102 = (pasF cst 8 N f m).1 → ∀ u, ab_Go l G ol (d + 6) mM_standsOut (ab_mc mM_standsOut) (ab_ms mM_standsOut) (fun r sh rf mem nx _ _ => K r sh rf mem nx) 30 [.ref 101, .int (nI i), .int (nI k), .int (soF cst N f i m), .int (nI m), u] [] sh rf mem' nx 0 0 from loop k 0 (by omega) mem1 (T1.th hf) (by rw [T1.1.1 101 (by decide) (by decide) (by decide) (by decide)]; exact h4) (by rw [pasF_0, T1.1.2]; exact hf) _
  intro r
  induction r with
  | zero =>
    intro m hm mem' T' e4 e2 u
    have : m = k := by omega
    subst this
    exact h_mM_standsOut_30 ⟨fun _ => ⟨m9 hS, m_putsBack hS hf h4 T' fun mem3 T3 => ⟨rfl, trivial, hK i m hi k1 hk rfl rfl mem3 T3.1⟩⟩, fun z => absurd (Int32.le_refl _) z⟩
  | succ r ih =>
    intro m hm mem' T' e4 e2 u
    have W1 := hW.pass (home := 8) hct m (by omega)
    have nxt := ih (m + 1) (by omega)
    rw [pasF_s] at nxt
    unfold soF at nxt
    rw [pasF_s] at nxt
    refine h_mM_standsOut_30 ⟨fun z => absurd z (nI_ge (by omega) (by omega)), fun _ => ⟨m9 hS, m_dayT (d := d + 1) (m0 := mem) (T := T) (D := D + m) (home := 8) hS hN T' hx (W1.2.2 6 (by omega)) (by omega) e2 W1.1 e4 fun mem2 x T2 e101 e2' => ⟨_, rfl, m9 hS, ?_⟩⟩⟩
    rw [hcst] at e2'
    have w1 := (W1.1.day (home := 8) hct (by omega)).1.1
    have e42 : mem2 101 4 = homV 8 := by rw [e101]; exact e4
    refine m_isOut (d := d + 2) hS hN hi e2' w1 (fun al => ⟨_, rfl, fun z => absurd z (by decide), fun _ => ?_⟩) (fun al => ⟨_, rfl, fun _ => ?_, fun z => absurd rfl z⟩)
    · have := nxt mem2 T2 e42 e2'
      rw [show alI (dstep cst 8 N (pasF cst 8 N f m)).1 N i = 1 by unfold alI; exact if_pos al] at this
      rw [nI_1]
      exact this _
    · have := nxt mem2 T2 e42 e2'
      rw [show alI (dstep cst 8 N (pasF cst 8 N f m)).1 N i = 0 by unfold alI; exact if_neg al] at this
      rw [nI_1]
      exact this _
set_option maxHeartbeats 4000000 in
theorem m_offBy (hS : St sh rf nx) {m0 : ab_N} {D T s t a z : Nat} {pl : Row} (hC : TC m0 N D T f) (hs : s < 4) (ht : t < N) (ha : a ≤ 99) (hz : z ≤ 24) (ez : m0 118 s = nI z) (hp : PB pl z) (ep : ∀ k, k < z → m0 119 (24 * s + k) = pl k) (hT : Tb m0 mem f)
    (h : ∀ mem', Tb m0 mem' f → K (some (.long (lN (dfN (ctO (oF f 0 T)) N t (upd f (tI t 2) (nI a)) pl z)))) sh rf mem' nx) : ab_Cx l G ol (d + 6) mM_offBy [.ref 101, .int (nI s), .int (nI t), .int (nI a)] sh rf mem nx K := by
  obtain ⟨hN, hf, h4, hW, hD, hx⟩ := hC
  have hW2 : Wf N D (upd f (tI t 2) (nI a)) := hW.tr (Or.inr (Or.inr ⟨rfl, a, ha, rfl⟩))
  refine e_mM_offBy ⟨m9 hS, m_put hS (k := 2) (by omega) (by decide) ⟨rfl, ?_⟩⟩
  rw [hT.1.2, hf]
  have hg6 : upd f (tI t 2) (nI a) 6 = f 6 := pk_un (by unfold tI; omega)
  have hghi : ∀ k, 111 ≤ k → upd f (tI t 2) (nI a) k = f k := fun k hk => pk_un (by unfold tI; omega)
  generalize hg : upd f (tI t 2) (nI a) = g at *
  generalize hcst : ctO (oF f 0 T) = cst at *
  have hct : CtR cst := by rw [← hcst]; exact ctO_rg _
  suffices loop : ∀ r k, k + r = z → ∀ mem', Th m0 mem' f → mem' 101 4 = homV 8 → mem' 102 = (pasF cst 8 N g k).1 → ∀ u5 u7 u8 u9 u10, ab_Go l G ol (d + 5) mM_offBy (ab_mc mM_offBy) (ab_ms mM_offBy) (fun r sh rf mem nx _ _ => K r sh rf mem nx) 13 [.ref 101, .int (nI s), .int (nI t), .int (nI a), .long (lN (dfN cst N t g pl k)), u5, .int (nI k), u7, u8, u9, u10] [] sh rf mem' nx 0 0 from loop z 0 (by omega) _ ((hT.th hf).row hghi) (by rw [row_ne _ _ (by decide), hT.1.1 101 (by decide) (by decide) (by decide) (by decide)]; exact h4) (by rw [row_at, pasF_0]) _ _ _ _ _
  have cs : Int32.toNatClampNeg (nI s) = s := cl_nI (by omega)
  intro r
  induction r with
  | zero =>
    intro k hk mem' T' e4 e2 u5 u7 u8 u9 u10
    have : k = z := by omega
    subst this
    refine h_mM_offBy_13 ⟨m9 hS, ma hS rfl rfl rfl (vp_in_nI hs (by decide)) ?_⟩
    rw [cs, T'.1 118 (by decide) (by decide) (by decide) (by decide) (by decide), ez]
    exact ⟨fun _ => ⟨m9 hS, m_putsBack hS hf h4 T' fun mem3 T3 => ⟨rfl, h mem3 T3⟩⟩, fun y => absurd (Int32.le_refl _) y⟩
  | succ r ih =>
    intro k hk mem' T' e4 e2 u5 u7 u8 u9 u10
    have hkz : k < z := by omega
    have W1 := hW2.pass (home := 8) hct k (by omega)
    obtain ⟨b1, b2⟩ := cn_b (t := t) hct hW2 hD ht (by omega : k ≤ 24)
    have nxt := ih (k + 1) (by omega)
    rw [pasF_s] at nxt
    unfold dfN at nxt
    have ei : (24 : Int32) * nI s + nI k = nI (24 * s + k) := by rw [show (24 : Int32) = nI 24 from rfl, pk_mul, nI_add]
    refine h_mM_offBy_13 ?_
    unfold v_mM_offBy_13
    rw [ei]
    refine ⟨m9 hS, ma hS rfl rfl rfl (vp_in_nI hs (by decide)) ?_⟩
    rw [cs, T'.1 118 (by decide) (by decide) (by decide) (by decide) (by decide), ez]
    refine ⟨fun y => absurd y (nI_ge (by omega) (by omega)), fun _ => ⟨m9 hS, ma hS rfl rfl rfl (vp_in_nI (by omega) (by decide)) ⟨m9 hS, m_of hS (k := 4) (by omega) (by decide) ⟨_, rfl, ?_⟩⟩⟩⟩
    rw [cl_nI (by omega), T'.1 119 (by decide) (by decide) (by decide) (by decide) (by decide), ep k hkz, e2, b1, nI_1]
    have dd : ∀ (S : Int64) (v8 : Value), S = lN (dfN cst N t g pl k + (if pl k = -1000000005 then 0 else dA (cn (pasF cst 8 N g k).1 t) (pl k))) → ab_is sh nx 101 9 ∧ ab_Cx l G ol (d + 5) mM_day [.ref 101] sh rf mem' nx (fun r5 sh5 rf5 mem5 nx5 => ∃ x5, r5 = some (.int x5) ∧ (ab_Go l G ol (d + 5) mM_offBy (ab_mc mM_offBy) (ab_ms mM_offBy) (fun r sh rf mem nx _ _ => K r sh rf mem nx) 13 [.ref 101, .int (nI s), .int (nI t), .int (nI a), .long S, .retAddr 0, .int (nI (k + 1)), .int (pl k), v8, .retAddr 0, .int x5] [] sh5 rf5 mem5 nx5 0 0)) := by
      rintro S v8 rfl
      refine ⟨m9 hS, m_dayT (d := d) (m0 := m0) (T := T) (D := D + k) (home := 8) hS hN T' hx ((W1.2.2 6 (by omega)).trans hg6) (by omega) e2 W1.1 e4 fun mem2 x T2 e101 e2' => ⟨_, rfl, ?_⟩⟩
      rw [hcst] at e2'
      exact nxt mem2 T2 (by rw [e101]; exact e4) e2' _ _ _ _ _
    refine ⟨fun y => ?_, fun y => ?_⟩
    · have hv := (hp k hkz).resolve_left y
      obtain ⟨z1, z2⟩ := abs64 b2 hv
      refine ⟨fun q => dd _ _ ?_, fun q => dd _ _ ?_⟩
      · rw [z1 q, if_neg y, lN_add]
      · rw [z2 q, if_neg y, lN_add]
    · refine dd _ _ ?_
      rw [if_pos y]
      exact lN_add _ 0
set_option maxHeartbeats 4000000 in
theorem m_bentBy (hS : St sh rf nx) {D T : Nat} (hC : TC mem N D T f) (hz : ∀ i, i < 4 → ∃ z, z ≤ 24 ∧ mem 118 i = nI z ∧ PB (fun k => mem 119 (24 * i + k)) z) (hso : ∀ i, i < 4 → mem 117 i = -1 ∨ 0 ≤ mem 117 i) {s t w : Int32} (hB : ¬ ((0 ≤ s ∧ s ≤ 3) ∧ (0 ≤ t ∧ t ≤ nI N - 1) ∧ (0 ≤ w ∧ w ≤ 1)) → K (some (.int (-1000000001))) sh rf mem nx) (hZ : ∀ i, (0 ≤ t ∧ t ≤ nI N - 1) ∧ (0 ≤ w ∧ w ≤ 1) → i < 4 → s = nI i → mem 117 i = -1 → K (some (.int (-1000000011))) sh rf mem nx) (hK : ∀ i j z, i < 4 → j < N → z ≤ 24 → mem 118 i = nI z → s = nI i → t = nI j → (0 ≤ w ∧ w ≤ 1) → ¬ mem 117 i = -1 → ∀ mem', FS mem mem' → K (some (.int (leA (lea (vBent (ctO (oF f 0 T)) N f j z (fun k => mem 119 (24 * i + k))) 0 41) w))) sh rf mem' nx) : ab_Cx l G ol (d + 8) mM_bentBy [.ref 101, .int s, .int t, .int w] sh rf mem nx K := by
  have hC0 := hC
  obtain ⟨hN, hf, h4, hW, hD, hx⟩ := hC
  have h1 : mem 102 1 = nI N := by rw [hf]; exact hW.1
  refine e_mM_bentBy ⟨by decide, m_isSheet ⟨_, rfl, br0 (fun q => ⟨m9 hS, m_isOne hS h1 ⟨_, rfl, br0 (fun q2 => ⟨by decide, m_in ⟨_, rfl, br1 (fun q3 => ?_) (fun q3 => ⟨trivial, hB fun z => q3 z.2.2⟩)⟩⟩) (fun q2 => ⟨trivial, hB fun z => q2 z.2.1⟩)⟩⟩) (fun q => ⟨trivial, hB fun z => q z.1⟩)⟩⟩
  obtain ⟨i, hi, rfl⟩ := rg_of (M := 3) (by omega) q
  have hi4 : i < 4 := by omega
  obtain ⟨z, hz24, ez, hp⟩ := hz i hi4
  refine ⟨m9 hS, ma hS rfl rfl rfl (vp_in_nI hi4 (by decide)) ?_⟩
  rw [cl_nI (by omega)]
  refine ⟨fun y => ⟨m9 hS, m_thinks hS hf fun mem1 T1 => ⟨rfl, m9 hS, ?_⟩⟩, fun y => ⟨trivial, hZ i ⟨q2, q3⟩ hi4 rfl ((hso i hi4).resolve_right y)⟩⟩
  obtain ⟨j, hj, rfl⟩ := ix_of (by omega) q2
  have hm1 : ¬ mem 117 i = -1 := fun e => absurd y (by rw [e]; decide)
  have hk := hK i j z hi4 hj hz24 ez rfl rfl q3 hm1
  generalize hpl : (fun k => mem 119 (24 * i + k)) = pl at *
  have ep : ∀ k, k < z → mem 119 (24 * i + k) = pl k := fun k _ => by rw [← hpl]
  have off : ∀ {K : ab_K} (mem' : ab_N) (a : Nat), a ≤ 40 → Tb mem mem' f → (∀ mem2, Tb mem mem2 f → K (some (.long (lN (dfN (ctO (oF f 0 T)) N j (upd f (tI j 2) (nI a)) pl z)))) sh rf mem2 nx) → ab_Cx l G ol (d + 7) mM_offBy [.ref 101, .int (nI i), .int (nI j), .int (nI a)] sh rf mem' nx K := fun mem' a ha T' hh => m_offBy (d := d + 1) (m0 := mem) hS hC0 hi4 hj (by omega) hz24 ez hp ep T' hh
  have vE : ∀ a, a ≤ 40 → vBent (ctO (oF f 0 T)) N f j z pl a = nI (dfN (ctO (oF f 0 T)) N j (upd f (tI j 2) (nI a)) pl z) ∧ dfN (ctO (oF f 0 T)) N j (upd f (tI j 2) (nI a)) pl z < 2 ^ 30 := by
    intro a ha
    have := dfS_nI (ctO_rg (oF f 0 T)) (hW.tr (t := j) (k := 2) (v := nI a) (Or.inr (Or.inr ⟨rfl, a, by omega, rfl⟩))) hD hj hz24 hp z (Nat.le_refl _)
    exact ⟨this.1, by omega⟩
  generalize vBent (ctO (oF f 0 T)) N f j z pl = v at *
  generalize hW' : (fun a => dfN (ctO (oF f 0 T)) N j (upd f (tI j 2) (nI a)) pl z) = wv
  have off : ∀ {K : ab_K} (mem' : ab_N) (a : Nat), a ≤ 40 → Tb mem mem' f → (∀ mem2, Tb mem mem2 f → K (some (.long (lN (wv a)))) sh rf mem2 nx) → ab_Cx l G ol (d + 7) mM_offBy [.ref 101, .int (nI i), .int (nI j), .int (nI a)] sh rf mem' nx K := by rw [← hW']; exact off
  have vE : ∀ a, a ≤ 40 → v a = nI (wv a) ∧ wv a < 2 ^ 30 := by rw [← hW']; exact vE
  suffices loop : ∀ r m, m + r = 40 → ∀ b, lea v 0 (m + 1) = some (b, v b) → b ≤ m → ∀ mem', Tb mem mem' f → ∀ u6 u8 u9, ab_Go l G ol (d + 7) mM_bentBy (ab_mc mM_bentBy) (ab_ms mM_bentBy) (fun r sh rf mem nx _ _ => K r sh rf mem nx) 58 [.ref 101, .int (nI i), .int (nI j), .int w, .int (nI b), .long (lN (wv b)), u6, .int (nI (m + 1)), u8, u9] [] sh rf mem' nx 0 0 from off mem1 0 (by omega) T1 fun mem2 T2 => ⟨_, rfl, loop 40 0 rfl 0 rfl (Nat.le_refl _) mem2 T2 _ _ _⟩
  intro r
  induction r with
  | zero =>
    intro m hm b hb hbm mem' T' u6 u8 u9
    have : m = 40 := by omega
    subst this
    have hk := hk mem' T'.1
    refine h_mM_bentBy_58 ⟨fun _ => ⟨fun c => ⟨trivial, ?_⟩, fun c => ⟨trivial, ?_⟩⟩, fun y => absurd (by decide) y⟩
    · rw [leA_1 hb c] at hk
      rw [lN_i, ← (vE b (by omega)).1]; exact hk
    · rw [leA_0 hb c] at hk; exact hk
  | succ r ih =>
    intro m hm b hb hbm mem' T' u6 u8 u9
    refine h_mM_bentBy_58 ⟨fun y => absurd y (nI_nlt (a := 40) (by omega) (by omega)), fun _ => ⟨m9 hS, off mem' (m + 1) (by omega) T' fun mem2 T2 => ⟨_, rfl, ?_⟩⟩⟩
    obtain ⟨v1, v2⟩ := vE b (by omega)
    obtain ⟨v3, v4⟩ := vE (m + 1) (by omega)
    have nxt := ih (m + 1) (by omega)
    have el : lea v 0 (m + 1 + 1) = if v b ≤ v (m + 1) then some (b, v b) else some (m + 1, v (m + 1)) := by
      rw [lea, hb]; simp only [Nat.zero_add]
    have ec : (0 : Int32) ≤ lg_cmp (lN (wv (m + 1))) (lN (wv b)) ↔ v b ≤ v (m + 1) := by
      rw [lg_cmp_ge, lN_le (by omega) (by omega), v1, v3, nI_leI (by omega) (by omega)]
    rw [nI_1, ec]
    by_cases y : v b ≤ v (m + 1)
    · rw [if_pos y] at el
      exact ⟨fun _ => ⟨fun _ => nxt b el (by omega) mem2 T2 _ _ _, fun x => absurd y x⟩, fun x => absurd y x⟩
    · rw [if_neg y] at el
      exact ⟨fun x => absurd x y, fun _ => ⟨fun x => absurd x y, fun _ => nxt (m + 1) el (Nat.le_refl _) mem2 T2 _ _ _⟩⟩
end MG
