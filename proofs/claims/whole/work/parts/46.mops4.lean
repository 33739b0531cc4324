/-! THE REFERENCE: tape, texts told, sheets, slots, images -/
theorem byt_a (x s : Int32) (k m : Nat) (hs : (s.toBitVec.smod 32).toNat = m) (hm : m = 24 - 8 * k) (hk : k < 4) : (x >>> s) &&& 255 = byt x k := by
  have h1 := pk_shr x s m hs
  have h2 : ∀ y : Int32, y.toInt = (y.toBitVec.toNat : Int) ∨ y.toInt = (y.toBitVec.toNat : Int) - 4294967296 := by
    intro y
    have := BitVec.toInt_eq_toNat_cond y.toBitVec
    show y.toBitVec.toInt = _ ∨ y.toBitVec.toInt = _
    rw [this]
    split
    · exact Or.inl rfl
    · exact Or.inr rfl
  rw [pk_and (x >>> s) 8 (by decide)]
  unfold byt
  congr 1
  rw [Int.shiftRight_eq_div_pow] at h1
  have b1 := (x >>> s).toBitVec.isLt
  have b2 := x.toBitVec.isLt
  have e1 := h2 (x >>> s)
  have e2 := h2 x
  generalize (x >>> s).toBitVec.toNat = Y at *
  generalize x.toBitVec.toNat = X at *
  generalize (x >>> s).toInt = y at *
  generalize x.toInt = z at *
  subst hm
  rcases (show k = 0 ∨ k = 1 ∨ k = 2 ∨ k = 3 by omega) with rfl | rfl | rfl | rfl
  · simp only [show 24 - 8 * 0 = 24 from rfl, show ((2 ^ 24 : Nat) : Int) = 16777216 from rfl, show 2 ^ 24 = 16777216 from rfl] at *; omega
  · simp only [show 24 - 8 * 1 = 16 from rfl, show ((2 ^ 16 : Nat) : Int) = 65536 from rfl, show 2 ^ 16 = 65536 from rfl] at *; omega
  · simp only [show 24 - 8 * 2 = 8 from rfl, show ((2 ^ 8 : Nat) : Int) = 256 from rfl, show 2 ^ 8 = 256 from rfl] at *; omega
  · simp only [show 24 - 8 * 3 = 0 from rfl, show ((2 ^ 0 : Nat) : Int) = 1 from rfl, show 2 ^ 0 = 1 from rfl] at *; omega
/-- the first k of the twelve bytes are there -/
def fdP (T : Row) (L k : Nat) (a b c : Int32) : Row := fun j => if L ≤ j ∧ j < L + k then (if j < L + 4 then byt a (j - L) else if j < L + 8 then byt b (j - (L + 4)) else byt c (j - (L + 8))) else T j
theorem fdP_0 (T : Row) (L : Nat) (a b c : Int32) : fdP T L 0 a b c = T := by
  funext j; unfold fdP; rw [if_neg (by omega)]
theorem fdP_12 (T : Row) (L : Nat) (a b c : Int32) : fdP T L 12 a b c = fdT T L a b c := by
  funext j
  unfold fdP fdT
  repeat' split
  all_goals first | rfl | omega
theorem fdP_s (T : Row) (L k : Nat) (a b c : Int32) : upd (fdP T L k a b c) (L + k) (if k < 4 then byt a k else if k < 8 then byt b (k - 4) else byt c (k - 8)) = fdP T L (k + 1) a b c := by
  funext j
  by_cases e : j = L + k
  · subst e
    rw [pk_us]
    unfold fdP
    repeat' split
    all_goals first | omega | (congr 1; omega)
  · rw [pk_un e]
    unfold fdP
    by_cases h : L ≤ j ∧ j < L + k
    · rw [if_pos h, if_pos (show L ≤ j ∧ j < L + (k + 1) by omega)]
    · rw [if_neg h, if_neg (show ¬ (L ≤ j ∧ j < L + (k + 1)) by omega)]
theorem rem_m1 (x : Int32) : rem x (-1) = 0 := by
  unfold rem
  have h : x / (-1) = -x := by
    apply Int32.toInt_inj.mp
    rw [Int32.toInt_div, show (-1 : Int32).toInt = -1 by decide, Int32.toInt_neg, Int.tdiv_neg, Int.tdiv_one]
  rw [h, Int32.mul_neg, Int32.mul_one, Int32.neg_neg, Int32.sub_self]
section MH
variable {l : Launch} {G : ab_G} {ol : ab_Ol} {d : Nat} {sh : ab_S} {rf : ab_R} {mem : ab_N} {nx : Nat} {K : ab_K} {N : Nat} {f : Row}
set_option maxHeartbeats 4000000 in
theorem m_feed (hS : St sh rf nx) {L : Nat} (h96 : L ≤ 96) (hL : mem 101 10 = nI L) {a b c : Int32} (hF : ¬ L + 12 ≤ 96 → K (some (.int (-1000000003))) sh rf mem nx) (hK : L + 12 ≤ 96 → K (some (.int (nI (L + 12)))) sh rf (ab_w (ab_row mem 109 (fdT (mem 109) L a b c)) 101 10 (nI (L + 12))) nx) : ab_Cx l G ol (d + 1) mM_feed [.ref 101, .int a, .int b, .int c] sh rf mem nx K := by
  refine e_mM_feed ⟨m9 hS, ?_⟩
  have e12 : nI L + 12 = nI (L + 12) := nI_add L 12
  rw [hL, e12]
  refine ⟨fun q => ?_, fun q => ⟨trivial, hF fun z => q (nI_le (b := 96) z (by decide))⟩⟩
  have hl : L + 12 ≤ 96 := (nI_leI (b := 96) (by omega) (by decide)).mp q
  suffices loop : ∀ r k, k + r = 12 → ∀ u, ab_Go l G ol d mM_feed (ab_mc mM_feed) (ab_ms mM_feed) (fun r sh rf mem nx _ _ => K r sh rf mem nx) 18 [.ref 101, .int a, .int b, .int c, .int (nI k), u] [] sh rf (ab_row mem 109 (fdP (mem 109) L k a b c)) nx 0 0 by
    have := loop 12 0 rfl (.retAddr 0)
    rw [fdP_0, row_id] at this
    exact this
  intro r
  induction r with
  | zero =>
    intro k hk u
    have : k = 12 := by omega
    subst this
    refine h_mM_feed_18 ⟨fun _ => ⟨m9 hS, m9 hS, m9 hS, trivial, ?_⟩, fun z => absurd (by decide) z⟩
    rw [w_eq, row_ne _ _ (by decide), hL, e12, fdP_12]
    exact hK hl
  | succ r ih =>
    intro k hk u
    have nxt := ih (k + 1) (by omega)
    rw [← fdP_s] at nxt
    have ei : nI L + nI k = nI (L + k) := nI_add L k
    have vi : vp_in (nI (L + k)) (sh 109).2 := in_of hS rfl rfl (vp_in_nI (by omega : L + k < 96) (by decide))
    have i109 : ab_is sh nx 109 10 := is_of hS rfl rfl
    refine h_mM_feed_18 ?_
    unfold v_mM_feed_18
    rw [row_ne _ _ (by decide), hL, ei, nI_1]
    have sh4 : ∀ k, k < 12 → ((((24 : Int32) - 8 * (nI k - nI k / 4 * 4)) &&& 31).toBitVec.smod 32).toNat = 24 - 8 * (k % 4) := by decide +kernel
    have s1 := sh4 k (by omega)
    refine ⟨fun z => absurd z (nI_ge (b := 12) (by omega) (by decide)), fun _ => ⟨fun z4 => ⟨fun z8 => ⟨m9 hS, rd_of hS rfl rfl ⟨m9 hS, by decide, i109, vi, ?_⟩⟩, fun z8 => ⟨m9 hS, rd_of hS rfl rfl ⟨m9 hS, by decide, i109, vi, ?_⟩⟩⟩, fun z4 => ⟨m9 hS, rd_of hS rfl rfl ⟨m9 hS, by decide, i109, vi, ?_⟩⟩⟩⟩
    · have k8 : 8 ≤ k := (nI_leI (a := 8) (by decide) (by omega)).mp z8
      rw [cl_nI (by omega), w_row, byt_a c _ (k - 8) _ s1 (by omega) (by omega)]
      rw [if_neg (by omega), if_neg (by omega)] at nxt
      exact nxt _
    · have k4 : 4 ≤ k := (nI_leI (a := 4) (by decide) (by omega)).mp z4
      have k8 : k < 8 := by
        rcases Nat.lt_or_ge k 8 with g | g
        · exact g
        · exact absurd (nI_le (a := 8) g (by omega)) z8
      rw [cl_nI (by omega), w_row, byt_a b _ (k - 4) _ s1 (by omega) (by omega)]
      rw [if_neg (by omega), if_pos (by omega)] at nxt
      exact nxt _
    · have k4 : k < 4 := by
        rcases Nat.lt_or_ge k 4 with g | g
        · exact g
        · exact absurd (nI_le (a := 4) g (by omega)) z4
      rw [cl_nI (by omega), w_row, byt_a a _ k _ s1 (by omega) k4]
      rw [if_pos k4] at nxt
      exact nxt _
theorem m_trim (hS : St sh rf nx) {L : Nat} (h96 : L ≤ 96) (hL : mem 101 10 = nI L) {n : Int32} (hB : ¬ (0 ≤ n ∧ n ≤ nI L) → K (some (.int (-1000000001))) sh rf mem nx) (hK : ∀ k, k ≤ L → n = nI k → K (some (.int n)) sh rf (ab_w mem 101 10 n) nx) : ab_Cx l G ol (d + 2) mM_trim [.ref 101, .int n] sh rf mem nx K := by
  refine e_mM_trim ⟨m9 hS, by decide, ?_⟩
  rw [hL]
  refine m_in ⟨_, rfl, br1 (fun q => ⟨m9 hS, trivial, ?_⟩) (fun q => ⟨trivial, hB q⟩)⟩
  obtain ⟨k, hk, e⟩ := rg_of (M := L) (by omega) q
  exact hK k hk e
theorem m_textTold (hS : St sh rf nx) (hf : mem 102 = f) {T : Nat} (hT : T ≤ 14) (eT : f 6 = nI T) {p w : Int32} (hB : ¬ ((0 ≤ p ∧ p ≤ nI T - 1) ∧ (0 ≤ w ∧ w ≤ 1)) → K (some (.int (-1000000001))) sh rf mem nx) (hK : ∀ j, j < T → p = nI j → (0 ≤ w ∧ w ≤ 1) → K (some (.int (if w = 0 then f (111 + 2 * j) / 1000 else f (111 + 2 * j + 1)))) sh rf mem nx) : ab_Cx l G ol (d + 2) mM_textTold [.ref 101, .int p, .int w] sh rf mem nx K := by
  subst hf
  refine e_mM_textTold (mn hS (pk_in 6 1483 (by decide)) ⟨by decide, ?_⟩)
  rw [show mem 102 (Int32.toNatClampNeg 6) = nI T from eT]
  refine m_in ⟨_, rfl, br0 (fun q => ⟨by decide, m_in ⟨_, rfl, br1 (fun q2 => ?_) (fun q2 => ⟨trivial, hB fun z => q2 z.2⟩)⟩⟩) (fun q => ⟨trivial, hB fun z => q z.1⟩)⟩
  obtain ⟨j, hj, rfl⟩ := ix_of (by omega) q
  have hk := hK j hj rfl q2
  have ei : (111 : Int32) + (2 : Int32) * nI j = nI (111 + 2 * j) := by
    rw [show (2 : Int32) = nI 2 from rfl, show (111 : Int32) = nI 111 from rfl, pk_mul, nI_add]
  rw [ei, nI_1]
  refine ⟨fun z => mn hS (vp_in_nI (by omega) (by decide)) ⟨trivial, ?_⟩, fun z => mn hS (vp_in_nI (by omega) (by decide)) ⟨by decide, trivial, ?_⟩⟩
  · rw [if_neg z] at hk; rw [cl_nI (by omega)]; exact hk
  · rw [if_pos z] at hk; rw [cl_nI (by omega)]; exact hk
theorem m_why (hS : St sh rf nx) (hf : mem 102 = f) {T : Nat} (hT : T ≤ 14) (eT : f 6 = nI T) {w : Int32} (hB : ¬ (0 ≤ w ∧ w ≤ 2) → K (some (.int (-1000000001))) sh rf mem nx) (hK : ∀ k, k < 3 → w = nI k → K (some (.int (match lastK f k T with | none => -1000000005 | some t => nI t))) sh rf mem nx) : ab_Cx l G ol (d + 2) mM_why [.ref 101, .int w] sh rf mem nx K := by
  subst hf
  refine e_mM_why ⟨by decide, m_in ⟨_, rfl, br1 (fun q => ?_) (fun q => ⟨trivial, hB q⟩)⟩⟩
  obtain ⟨k, hk, rfl⟩ := rg_of (M := 2) (by omega) q
  have hk := hK k (by omega) rfl
  refine ⟨m9 hS, m_counts hS hT eT ⟨_, rfl, ?_⟩⟩
  cases hl : lastK (mem 102) k T with
  | none =>
    rw [hl] at hk
    exact ⟨fun z => absurd z (by decide), fun _ => ⟨trivial, hk⟩⟩
  | some t =>
    rw [hl] at hk
    have := (lastK_lt hl).1
    exact ⟨fun _ => ⟨trivial, hk⟩, fun z => absurd (nI_pos' (by omega)) z⟩
theorem c24 (s k : Nat) : (24 : Int32) * nI s + nI k = nI (24 * s + k) := by rw [show (24 : Int32) = nI 24 from rfl, pk_mul, nI_add]
/-- a cell of the reference's whose index is a sheet or a slot -/
theorem m_pour (hS : St sh rf nx) (hN : N ≤ 8) (hf : mem 102 = f) (h1 : f 1 = nI N) (hz : ∀ i, i < 4 → ∃ z, z ≤ 24 ∧ mem 118 i = nI z) (hso : ∀ i, i < 4 → mem 117 i = -1 ∨ 0 ≤ mem 117 i) {s : Int32} (hB : ¬ (0 ≤ s ∧ s ≤ 3) → K (some (.int (-1000000001))) sh rf mem nx) (hZ : ∀ i, i < 4 → s = nI i → mem 117 i = -1 → K (some (.int (-1000000011))) sh rf mem nx) (hK : ∀ i z, i < 4 → s = nI i → ¬ mem 117 i = -1 → z ≤ 24 → mem 118 i = nI z → K (some (.int (poF f (fun k => mem 119 (24 * i + k)) (min N z)).2)) sh rf (ab_row mem 102 (poF f (fun k => mem 119 (24 * i + k)) (min N z)).1) nx) : ab_Cx l G ol (d + 3) mM_pour [.ref 101, .int s] sh rf mem nx K := by
  refine e_mM_pour ⟨by decide, m_isSheet ⟨_, rfl, br1 (fun q => ?_) (fun q => ⟨trivial, hB q⟩)⟩⟩
  obtain ⟨i, hi, rfl⟩ := rg_of (M := 3) (by omega) q
  have hi4 : i < 4 := by omega
  have ci : Int32.toNatClampNeg (nI i) = i := cl_nI (by omega)
  have c1 : Int32.toNatClampNeg (1 : Int32) = 1 := by decide
  obtain ⟨z, hz24, ez⟩ := hz i hi4
  refine ⟨m9 hS, ma hS rfl rfl rfl (vp_in_nI hi4 (by decide)) ?_⟩
  rw [ci]
  refine ⟨fun y => ?_, fun y => ⟨trivial, hZ i hi4 rfl ((hso i hi4).resolve_right y)⟩⟩
  have hm1 : ¬ mem 117 i = -1 := fun e => absurd y (by rw [e]; decide)
  have hk := hK i z hi4 rfl hm1 hz24 ez
  generalize hpl : (fun k => mem 119 (24 * i + k)) = pl at *
  have ep : ∀ k, mem 119 (24 * i + k) = pl k := fun k => by rw [← hpl]
  have f1 : ∀ n, n ≤ 8 → (poF f pl n).1 1 = nI N := by
    intro n
    induction n with
    | zero => intro _; exact h1
    | succ n ih =>
      intro hn
      unfold poF po1
      split
      · exact ih (by omega)
      · show upd _ _ _ 1 = _
        rw [pk_un (by unfold tI; omega)]; exact ih (by omega)
  suffices loop : ∀ r t, t + r = min N z → ∀ u4 u5, ab_Go l G ol (d + 2) mM_pour (ab_mc mM_pour) (ab_ms mM_pour) (fun r sh rf mem nx _ _ => K r sh rf mem nx) 26 [.ref 101, .int (nI i), .int (poF f pl t).2, .int (nI t), u4, u5] [] sh rf (ab_row mem 102 (poF f pl t).1) nx 0 0 by
    have := loop (min N z) 0 (by omega) (.retAddr 0) (.retAddr 0)
    rw [show (poF f pl 0).1 = mem 102 from hf.symm, row_id] at this
    exact this
  intro r
  induction r with
  | zero =>
    intro t ht u4 u5
    have : t = min N z := by omega
    subst this
    refine h_mM_pour_26 ⟨m9 hS, ma hS rfl rfl rfl (vp_in_nI hi4 (by decide)) ?_⟩
    rw [ci, row_ne _ _ (by decide), ez]
    refine ⟨fun _ => ⟨trivial, hk⟩, fun y1 => mn hS (pk_in 1 1483 (by decide)) ?_⟩
    rw [c1, row_at, f1 _ (by omega)]
    refine ⟨fun _ => ⟨trivial, hk⟩, fun y2 => ?_⟩
    exfalso
    rcases Nat.le_total N z with g | g
    · exact y2 (nI_le (by omega) (by omega))
    · exact y1 (nI_le (by omega) (by omega))
  | succ r ih =>
    intro t ht u4 u5
    have nxt := ih (t + 1) (by omega)
    unfold poF po1 at nxt
    refine h_mM_pour_26 ?_
    unfold v_mM_pour_26
    rw [c24, show ((7 : Int32) + 13 * nI t + 1) = nI (tI t 1) from ti_e t 1]
    refine ⟨m9 hS, ma hS rfl rfl rfl (vp_in_nI hi4 (by decide)) ?_⟩
    rw [ci, row_ne _ _ (by decide), ez]
    refine ⟨fun y => absurd y (nI_ge (by omega) (by omega)), fun _ => mn hS (pk_in 1 1483 (by decide)) ?_⟩
    rw [c1, row_at, f1 _ (by omega)]
    refine ⟨fun y => absurd y (nI_ge (by omega) (by omega)), fun _ => ⟨m9 hS, ma hS rfl rfl rfl (vp_in_nI (by omega) (by decide)) ?_⟩⟩
    rw [cl_nI (by omega), row_ne _ _ (by decide), ep, nI_1]
    refine ⟨fun y => ⟨by decide, m_within ⟨_, rfl, m9 hS, m_becomes hS rfl (by have := ti_lt (t := t) (k := 1) (by omega) (by decide); omega) ⟨_, rfl, ?_⟩⟩⟩, fun y => ⟨m9 hS, m_of hS (k := 1) (by omega) (by decide) ⟨_, rfl, m9 hS, m_becomes hS rfl (by have := ti_lt (t := t) (k := 1) (by omega) (by decide); omega) ⟨_, rfl, fun y2 => absurd rfl y2, fun _ => ?_⟩⟩⟩⟩
    · rw [if_neg y] at nxt
      rw [row_at, row_row]
      have e9 : wiI (pl t) 0 99 = h99 (pl t) := by unfold h99; rw [held_wi (by decide)]
      rw [e9]
      refine ⟨fun y2 => ?_, fun y2 => ?_⟩
      · simp only at nxt
        rw [if_neg (fun e => y2 e.symm)] at nxt
        exact nxt _ _
      · simp only at nxt
        rw [if_pos y2.symm] at nxt
        rw [Int32.add_zero]
        exact nxt _ _
    · rw [if_pos y] at nxt
      rw [row_at, row_row, fa_us rfl, Int32.add_zero]
      exact nxt _ _
theorem m_reads (hS : St sh rf nx) (hN : N ≤ 8) (hf : mem 102 = f) (h1 : f 1 = nI N) (hz : ∀ i, i < 4 → ∃ z, z ≤ 24 ∧ mem 118 i = nI z) (hso : ∀ i, i < 4 → mem 117 i = -1 ∨ 0 ≤ mem 117 i) {s : Int32} (hB : ¬ (0 ≤ s ∧ s ≤ 3) → K (some (.int (-1000000001))) sh rf mem nx) (hZ : ∀ i, i < 4 → s = nI i → mem 117 i = -1 → K (some (.int (-1000000011))) sh rf mem nx) (hK : ∀ i z, i < 4 → s = nI i → ¬ mem 117 i = -1 → z ≤ 24 → mem 118 i = nI z → K (some (.int (rdG f N (fun k => mem 119 (24 * i + k)) 0 z))) sh rf mem nx) : ab_Cx l G ol (d + 3) mM_reads [.ref 101, .int s] sh rf mem nx K := by
  refine e_mM_reads ⟨by decide, m_isSheet ⟨_, rfl, br1 (fun q => ?_) (fun q => ⟨trivial, hB q⟩)⟩⟩
  obtain ⟨i, hi, rfl⟩ := rg_of (M := 3) (by omega) q
  have hi4 : i < 4 := by omega
  have ci : Int32.toNatClampNeg (nI i) = i := cl_nI (by omega)
  obtain ⟨z, hz24, ez⟩ := hz i hi4
  refine ⟨m9 hS, ma hS rfl rfl rfl (vp_in_nI hi4 (by decide)) ?_⟩
  rw [ci]
  refine ⟨fun y => ?_, fun y => ⟨trivial, hZ i hi4 rfl ((hso i hi4).resolve_right y)⟩⟩
  have hm1 : ¬ mem 117 i = -1 := fun e => absurd y (by rw [e]; decide)
  have hk := hK i z hi4 rfl hm1 hz24 ez
  generalize hpl : (fun k => mem 119 (24 * i + k)) = pl at *
  have ep : ∀ k, mem 119 (24 * i + k) = pl k := fun k => by rw [← hpl]
  suffices loop : ∀ r k, k + r = z → rdG f N pl k r = rdG f N pl 0 z → ∀ u, ab_Go l G ol (d + 2) mM_reads (ab_mc mM_reads) (ab_ms mM_reads) (fun r sh rf mem nx _ _ => K r sh rf mem nx) 24 [.ref 101, .int (nI i), .int (nI k), u] [] sh rf mem nx 0 0 from loop z 0 (by omega) rfl _
  intro r
  induction r with
  | zero =>
    intro k hk2 e u
    have : k = z := by omega
    subst this
    refine h_mM_reads_24 ⟨m9 hS, ma hS rfl rfl rfl (vp_in_nI hi4 (by decide)) ?_⟩
    rw [ci, ez]
    rw [← e] at hk
    exact ⟨fun _ => ⟨trivial, hk⟩, fun y => absurd (Int32.le_refl _) y⟩
  | succ r ih =>
    intro k hk2 e u
    have es : rdG f N pl k (r + 1) = if ¬ pl k = -1000000005 ∧ (N ≤ k ∨ ¬ pl k = f (tI k 7)) then nI k else rdG f N pl (k + 1) r := by rw [rdG]
    rw [← e, es] at hk ih
    refine h_mM_reads_24 ?_
    unfold v_mM_reads_24
    rw [c24]
    refine ⟨m9 hS, ma hS rfl rfl rfl (vp_in_nI hi4 (by decide)) ?_⟩
    rw [ci, ez]
    refine ⟨fun y => absurd y (nI_ge (by omega) (by omega)), fun _ => ⟨m9 hS, ma hS rfl rfl rfl (vp_in_nI (by omega) (by decide)) ?_⟩⟩
    rw [cl_nI (by omega), ep, nI_1]
    refine ⟨fun y => ih (k + 1) (by omega) (by rw [if_neg (fun c => c.1 y)]) _, fun y => ⟨m9 hS, m_isOne hS (by rw [hf]; exact h1) ⟨_, rfl, br0 (fun y2 => ?_) (fun y2 => ⟨trivial, ?_⟩)⟩⟩⟩
    · obtain ⟨j, hj, ej⟩ := ix_of (by omega) y2
      have ekj : k = j := (nI_eq (by omega) (by omega)).mp ej
      subst ekj
      refine ⟨m9 hS, m_of hS (k := 7) (by omega) (by decide) ⟨_, rfl, ?_⟩⟩
      rw [hf]
      refine ⟨fun y3 => ih (k + 1) (by omega) (by rw [if_neg (fun c => c.2.elim (fun c => by omega) (fun c => c y3))]) _, fun y3 => ⟨trivial, ?_⟩⟩
      rw [if_pos ⟨y, Or.inr y3⟩] at hk
      exact hk
    · have : N ≤ k := by
        rcases Nat.lt_or_ge k N with g | g
        · exact absurd (ix_in (by omega) g) y2
        · exact g
      rw [if_pos ⟨y, Or.inl this⟩] at hk
      exact hk
theorem m_ask (hS : St sh rf nx) {s w : Int32} (hB : ¬ ((0 ≤ s ∧ s ≤ 4) ∧ (0 ≤ w ∧ w ≤ 5)) → K (some (.int (-1000000001))) sh rf mem nx) (hK : ∀ i, i < 5 → s = nI i → (0 ≤ w ∧ w ≤ 5) → K (some (.int (if mem 120 i = 1 then (if und (mem 121 i) w then mem 122 i else -1000000012) else otA (mem 120 i)))) sh rf mem nx) : ab_Cx l G ol (d + 3) mM_ask [.ref 101, .int s, .int w] sh rf mem nx K := by
  refine e_mM_ask ⟨by decide, m_isSlot ⟨_, rfl, br0 (fun q => ⟨by decide, m_in ⟨_, rfl, br1 (fun q2 => ?_) (fun q2 => ⟨trivial, hB fun z => q2 z.2⟩)⟩⟩) (fun q => ⟨trivial, hB fun z => q z.1⟩)⟩⟩
  obtain ⟨i, hi, rfl⟩ := rg_of (M := 4) (by omega) q
  have hi5 : i < 5 := by omega
  have v5 : vp_in (nI i) 5 := vp_in_nI hi5 (by decide)
  have ci : Int32.toNatClampNeg (nI i) = i := cl_nI (by omega)
  have hk := hK i hi5 rfl q2
  refine ⟨m9 hS, ma hS rfl rfl rfl v5 ?_⟩
  rw [ci]
  refine ⟨fun y => ⟨m9 hS, ma hS rfl rfl rfl v5 ?_⟩, fun y => ⟨trivial, ?_⟩⟩
  · refine ⟨fun y2 => ⟨trivial, ?_⟩, fun y2 => ⟨m9 hS, ma hS rfl rfl rfl v5 ⟨by decide, m_isUnder ⟨_, rfl, ?_⟩⟩⟩⟩
    · rw [if_neg y2, otA, if_neg y] at hk; exact hk
    · rw [if_pos y2] at hk
      refine br0 (fun y3 => ⟨m9 hS, ma hS rfl rfl rfl v5 ⟨trivial, ?_⟩⟩) (fun y3 => ⟨trivial, ?_⟩)
      · rw [if_pos y3] at hk; exact hk
      · rw [if_neg y3] at hk; exact hk
  · rw [if_neg (by rw [y]; decide), otA, if_pos y] at hk; exact hk
theorem m_item (hS : St sh rf nx) (hz : ∀ i, i < 5 → mem 120 i = 2 → ∃ z, z ≤ 24 ∧ mem 121 i = nI z) {s p : Int32} (hB : ¬ (0 ≤ s ∧ s ≤ 4) → K (some (.int (-1000000001))) sh rf mem nx) (hK : ∀ i, i < 5 → s = nI i → K (some (.int (if mem 120 i = 2 then (if 0 ≤ p ∧ p ≤ mem 121 i - 1 then (if mem 123 (24 * i + Int32.toNatClampNeg p) = -1000000005 then -1000000012 else mem 123 (24 * i + Int32.toNatClampNeg p)) else -1000000013) else otA (mem 120 i)))) sh rf mem nx) : ab_Cx l G ol (d + 3) mM_item [.ref 101, .int s, .int p] sh rf mem nx K := by
  refine e_mM_item ⟨by decide, m_isSlot ⟨_, rfl, br1 (fun q => ?_) (fun q => ⟨trivial, hB q⟩)⟩⟩
  obtain ⟨i, hi, rfl⟩ := rg_of (M := 4) (by omega) q
  have hi5 : i < 5 := by omega
  have v5 : vp_in (nI i) 5 := vp_in_nI hi5 (by decide)
  have ci : Int32.toNatClampNeg (nI i) = i := cl_nI (by omega)
  have hk := hK i hi5 rfl
  refine ⟨m9 hS, ma hS rfl rfl rfl v5 ?_⟩
  rw [ci]
  refine ⟨fun y => ⟨m9 hS, ma hS rfl rfl rfl v5 ?_⟩, fun y => ⟨trivial, ?_⟩⟩
  · refine ⟨fun y2 => ⟨m9 hS, ma hS rfl rfl rfl v5 ⟨by decide, m_in ⟨_, rfl, ?_⟩⟩⟩, fun y2 => ⟨trivial, ?_⟩⟩
    · rw [if_pos y2] at hk
      obtain ⟨z, hz24, ez⟩ := hz i hi5 y2
      refine br1 (fun y3 => ?_) (fun y3 => ⟨trivial, ?_⟩)
      · rw [if_pos y3] at hk
        rw [ez] at y3
        obtain ⟨j, hj, rfl⟩ := ix_of (by omega) y3
        rw [cl_nI (by omega)] at hk
        rw [c24]
        refine ⟨m9 hS, ma hS rfl rfl rfl (vp_in_nI (by omega) (by decide)) ?_⟩
        rw [cl_nI (by omega)]
        refine ⟨fun y4 => ⟨trivial, ?_⟩, fun y4 => ⟨trivial, ?_⟩⟩
        · rw [if_neg y4] at hk; exact hk
        · rw [if_pos y4] at hk; exact hk
      · rw [if_neg y3] at hk; exact hk
    · rw [if_neg y2, otA, if_neg y] at hk; exact hk
  · rw [if_neg (by rw [y]; decide), otA, if_pos y] at hk; exact hk
theorem m_rest (hS : St sh rf nx) {s n : Int32} (hB : ¬ (0 ≤ s ∧ s ≤ 4) → K (some (.int (-1000000001))) sh rf mem nx) (hK : ∀ i, i < 5 → s = nI i → K (some (.int (if mem 120 i = 3 then (if n = 0 then -1000000002 else rem (mem 121 i) n) else otA (mem 120 i)))) sh rf mem nx) : ab_Cx l G ol (d + 3) mM_rest [.ref 101, .int s, .int n] sh rf mem nx K := by
  refine e_mM_rest ⟨by decide, m_isSlot ⟨_, rfl, br1 (fun q => ?_) (fun q => ⟨trivial, hB q⟩)⟩⟩
  obtain ⟨i, hi, rfl⟩ := rg_of (M := 4) (by omega) q
  have hi5 : i < 5 := by omega
  have v5 : vp_in (nI i) 5 := vp_in_nI hi5 (by decide)
  have ci : Int32.toNatClampNeg (nI i) = i := cl_nI (by omega)
  have hk := hK i hi5 rfl
  refine ⟨m9 hS, ma hS rfl rfl rfl v5 ?_⟩
  rw [ci]
  refine ⟨fun y => ⟨m9 hS, ma hS rfl rfl rfl v5 ?_⟩, fun y => ⟨trivial, ?_⟩⟩
  · refine ⟨fun y2 => ⟨fun y3 => ⟨fun y4 => ⟨m9 hS, ma hS rfl rfl rfl v5 ⟨y3, trivial, ?_⟩⟩, fun y4 => ⟨trivial, ?_⟩⟩, fun y3 => ⟨trivial, ?_⟩⟩, fun y2 => ⟨trivial, ?_⟩⟩
    · rw [if_pos y2, if_neg y3] at hk; exact hk
    · rw [if_pos y2, if_neg y3, y4, rem_m1] at hk; exact hk
    · rw [if_pos y2, if_pos y3] at hk; exact hk
    · rw [if_neg y2, otA, if_neg y] at hk; exact hk
  · rw [if_neg (by rw [y]; decide), otA, if_pos y] at hk; exact hk
theorem m_tell (hS : St sh rf nx) {W : Nat} (hW : W ≤ 60) (e : mem 101 36 = nI W) {v : Int32} (hF : W = 60 → K (some (.int (-1000000003))) sh rf mem nx) (hK : W < 60 → K (some (.int (nI (W + 1)))) sh rf (ab_w (ab_w mem 125 W v) 101 36 (nI (W + 1))) nx) : ab_Cx l G ol (d + 1) mM_tell [.ref 101, .int v] sh rf mem nx K := by
  refine e_mM_tell ⟨m9 hS, ?_⟩
  rw [e]
  refine ⟨fun q => ?_, fun q => ⟨trivial, hF ((nI_eq (b := 60) (by omega) (by decide)).mp q)⟩⟩
  have hq : W < 60 := by
    rcases Nat.lt_or_ge W 60 with g | g
    · exact g
    · exact absurd (show nI W = 60 by rw [show W = 60 by omega]; rfl) q
  refine ⟨m9 hS, rd_of hS rfl rfl ⟨m9 hS, is_of hS rfl rfl, in_of hS rfl rfl (vp_in_nI hq (by decide)), m9 hS, m9 hS, m9 hS, trivial, ?_⟩⟩
  rw [w_eq, w_ne _ _ (Or.inl (by decide)), e, nI_1, cl_nI (by omega)]
  exact hK hq
theorem m_copyAll (hS : St sh rf nx) {a b : Nat} (ha : a = 102 ∨ a = 103 ∨ a = 104) (hb : b = 102 ∨ b = 103 ∨ b = 104) (h : ∀ mem' : ab_N, (∀ q, q ≠ b → mem' q = mem q) → (∀ k, k < 1483 → mem' b k = mem a k) → (∀ k, 1483 ≤ k → mem' b k = mem b k) → K none sh rf mem' nx) (hab : a ≠ b) : ab_Cx l G ol (d + 1) mM_copyAll [.ref a, .ref b] sh rf mem nx K := by
  have ia : ab_is sh nx a 10 := by rcases ha with rfl | rfl | rfl <;> exact is_of hS rfl rfl
  have ib : ab_is sh nx b 10 := by rcases hb with rfl | rfl | rfl <;> exact is_of hS rfl rfl
  have va : ∀ {i : Int32}, vp_in i 1483 → vp_in i (sh a).2 := by rcases ha with rfl | rfl | rfl <;> exact fun q => in_of hS rfl rfl q
  have vb : ∀ {i : Int32}, vp_in i 1483 → vp_in i (sh b).2 := by rcases hb with rfl | rfl | rfl <;> exact fun q => in_of hS rfl rfl q
  suffices loop : ∀ r i, i + r = 1483 → ∀ mem' : ab_N, (∀ q, q ≠ b → mem' q = mem q) → (∀ k, k < i → mem' b k = mem a k) → (∀ k, i ≤ k → mem' b k = mem b k) → ab_Go l G ol d mM_copyAll (ab_mc mM_copyAll) (ab_ms mM_copyAll) (fun r sh rf mem nx _ _ => K r sh rf mem nx) 2 [.ref a, .ref b, .int (nI i)] [] sh rf mem' nx 0 0 from e_mM_copyAll (loop 1483 0 rfl mem (fun _ _ => rfl) (fun k q => by omega) (fun _ _ => rfl))
  intro r
  induction r with
  | zero =>
    intro i hi mem' F h1 h2
    have : i = 1483 := by omega
    subst this
    exact h_mM_copyAll_2 ⟨fun _ => h mem' F h1 h2, fun q => absurd (by decide) q⟩
  | succ r ih =>
    intro i hi mem' F h1 h2
    have vi : vp_in (nI i) 1483 := vp_in_nI (by omega) (by decide)
    refine h_mM_copyAll_2 ⟨fun q => absurd q (nI_ge (b := 1483) (by omega) (by decide)), fun _ => ⟨ia, va vi, ib, vb vi, ?_⟩⟩
    rw [cl_nI (by omega), nI_1]
    refine ih (i + 1) (by omega) _ (fun q hq => by rw [ab_w_ne _ _ _ hq]; exact F q hq) (fun k hk => ?_) (fun k hk => by rw [w_ne _ _ (Or.inr (by omega))]; exact h2 k (by omega))
    by_cases z : k = i
    · subst z; rw [w_eq, F a hab]
    · rw [w_ne _ _ (Or.inr z)]; exact h1 k (by omega)
theorem m_keep (hS : St sh rf nx) (hf : mem 102 = f) (h1 : f 1 = nI N) (hK : ∀ mem', (∀ a, a ≠ 101 → a ≠ 103 → mem' a = mem a) → (∀ k, k ≠ 3 → mem' 101 k = mem 101 k) → mem' 101 3 = 1 → (∀ k, k < 1483 → mem' 103 k = f k) → (∀ k, 1483 ≤ k → mem' 103 k = mem 103 k) → K (some (.int (nI N))) sh rf mem' nx) : ab_Cx l G ol (d + 2) mM_keep [.ref 101] sh rf mem nx K := by
  refine e_mM_keep ⟨m9 hS, rd_of hS rfl rfl ⟨m9 hS, rd_of hS rfl rfl ⟨by decide, m_copyAll hS (by decide) (by decide) (fun mem1 F1 E1 E2 => ⟨rfl, m9 hS, Or.inr rfl, mn hS (pk_in 1 1483 (by decide)) ⟨trivial, ?_⟩⟩) (by decide)⟩⟩⟩
  have e : (ab_w mem1 101 3 1) 102 (Int32.toNatClampNeg 1) = nI N := by
    rw [ab_w_ne _ _ _ (by decide), F1 102 (by decide), hf]; exact h1
  rw [e]
  refine hK _ (fun a a1 a2 => by rw [ab_w_ne _ _ _ a1]; exact F1 a a2) (fun k hk => by rw [w_ne _ _ (Or.inr hk), F1 101 (by decide)]) (w_eq _ _ _ _) (fun k hk => by rw [ab_w_ne _ _ _ (by decide), E1 k hk, hf]) (fun k hk => by rw [ab_w_ne _ _ _ (by decide), E2 k hk])
theorem m_back (hS : St sh rf nx) {N' : Nat} (hk : mem 101 3 = 0 ∨ (mem 101 3 = 1 ∧ mem 103 1 = nI N')) (hZ : mem 101 3 = 0 → K (some (.int (-1000000002))) sh rf mem nx) (hK : mem 101 3 = 1 → ∀ mem', (∀ a, a ≠ 102 → mem' a = mem a) → (∀ k, k < 1483 → mem' 102 k = mem 103 k) → (∀ k, 1483 ≤ k → mem' 102 k = mem 102 k) → K (some (.int (nI N'))) sh rf mem' nx) : ab_Cx l G ol (d + 2) mM_back [.ref 101] sh rf mem nx K := by
  refine e_mM_back ⟨m9 hS, fun q => ?_, fun q => ⟨trivial, hZ q⟩⟩
  rcases hk with z | ⟨z, e1⟩
  · exact absurd z q
  · refine ⟨m9 hS, rd_of hS rfl rfl ⟨m9 hS, rd_of hS rfl rfl ⟨by decide, m_copyAll hS (by decide) (by decide) (fun mem1 F1 E1 E2 => ⟨rfl, mn hS (pk_in 1 1483 (by decide)) ⟨trivial, ?_⟩⟩) (by decide)⟩⟩⟩
    have e : mem1 102 (Int32.toNatClampNeg 1) = nI N' := (E1 1 (by decide)).trans e1
    rw [e]
    exact hK z mem1 F1 E1 E2
theorem m_count (hS : St sh rf nx) (hf : mem 102 = f) {w : Int32} (hK : K (some (.int (couF f (mem 101 36) (mem 101 10) w))) sh rf mem nx) : ab_Cx l G ol (d + 1) mM_count [.ref 101, .int w] sh rf mem nx K := by
  subst hf
  unfold couF at hK
  have v : ∀ {i : Nat}, i < 1483 → vp_in (nI i) 1483 := fun q => vp_in_nI q (by decide)
  refine e_mM_count ⟨fun q => mn hS (v (i := 1) (by decide)) ⟨trivial, ?_⟩, fun q0 => ⟨fun q => mn hS (v (i := 2) (by decide)) ⟨trivial, ?_⟩, fun q1 => ⟨fun q => ?_, fun q2 => ⟨fun q => ?_, fun q3 => ⟨fun q => ?_, fun q4 => ⟨fun q => mn hS (v (i := 6) (by decide)) ⟨trivial, ?_⟩, fun q5 => ⟨fun q => ⟨m9 hS, trivial, ?_⟩, fun q6 => ⟨fun q => ⟨m9 hS, trivial, ?_⟩, fun q7 => ⟨fun q => mn hS (v (i := 0) (by decide)) ⟨trivial, ?_⟩, fun q8 => ⟨trivial, ?_⟩⟩⟩⟩⟩⟩⟩⟩⟩⟩
  · rw [if_pos q] at hK; exact hK
  · rw [if_neg q0, if_pos q] at hK; exact hK
  · rw [if_neg q0, if_neg q1, if_pos q] at hK
    subst q
    exact mn hS (v (i := 3) (by decide)) ⟨trivial, hK⟩
  · rw [if_neg q0, if_neg q1, if_neg q2, if_pos q] at hK
    subst q
    exact mn hS (v (i := 4) (by decide)) ⟨trivial, hK⟩
  · rw [if_neg q0, if_neg q1, if_neg q2, if_neg q3, if_pos q] at hK
    subst q
    exact mn hS (v (i := 5) (by decide)) ⟨trivial, hK⟩
  · rw [if_neg q0, if_neg q1, if_neg q2, if_neg q3, if_neg q4, if_pos q] at hK; exact hK
  · rw [if_neg q0, if_neg q1, if_neg q2, if_neg q3, if_neg q4, if_neg q5, if_pos q] at hK; exact hK
  · rw [if_neg q0, if_neg q1, if_neg q2, if_neg q3, if_neg q4, if_neg q5, if_neg q6, if_pos q] at hK; exact hK
  · rw [if_neg q0, if_neg q1, if_neg q2, if_neg q3, if_neg q4, if_neg q5, if_neg q6, if_neg q7, if_pos q] at hK; exact hK
  · rw [if_neg q0, if_neg q1, if_neg q2, if_neg q3, if_neg q4, if_neg q5, if_neg q6, if_neg q7, if_neg q8] at hK; exact hK
end MH
