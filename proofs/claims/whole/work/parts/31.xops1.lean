/-! THE CLASS: calls on travellers and rules -/
theorem br1 {c : Prop} [Decidable c] {A B : Prop} (h1 : c → A) (h2 : ¬ c → B) : (¬ (if c then (1 : Int32) else 0) = 0 → A) ∧ ((if c then (1 : Int32) else 0) = 0 → B) := by
  by_cases h : c
  · rw [if_pos h]; exact ⟨fun _ => h1 h, fun q => absurd q (by decide)⟩
  · rw [if_neg h]; exact ⟨fun q => absurd rfl q, fun _ => h2 h⟩
theorem br0 {c : Prop} [Decidable c] {A B : Prop} (h1 : c → A) (h2 : ¬ c → B) : ((if c then (1 : Int32) else 0) = 0 → B) ∧ (¬ (if c then (1 : Int32) else 0) = 0 → A) := ⟨(br1 h1 h2).2, (br1 h1 h2).1⟩
theorem w4 : Wd 4 := Or.inl rfl
theorem w23 : Wd 23 := Or.inr (Or.inl rfl)
theorem w42 : Wd 42 := Or.inr (Or.inr rfl)
/-- an index -/
theorem ix_of {N : Nat} {v : Int32} (hN : N < 2 ^ 31) (h : 0 ≤ v ∧ v ≤ nI N - 1) : ∃ i, i < N ∧ v = nI i := by
  obtain ⟨i, hi, rfl⟩ := nI_of (Int32.not_lt.mpr h.1)
  refine ⟨i, ?_, rfl⟩
  rcases Nat.eq_zero_or_pos N with g | g
  · subst g
    have : nI i ≤ (-1 : Int32) := h.2
    exact absurd (Int32.le_trans h.1 this) (by decide)
  · have e : nI N - 1 = nI (N - 1) := nI_subk (k := 1) g
    rw [e] at h
    rcases Nat.lt_or_ge i N with q | q
    · exact q
    · exact absurd h.2 (nI_ge (by omega) hi)
theorem ix_in {N i : Nat} (hN : N < 2 ^ 31) (h : i < N) : 0 ≤ nI i ∧ nI i ≤ nI N - 1 := by
  have e : nI N - 1 = nI (N - 1) := nI_subk (k := 1) (by omega)
  rw [e]
  exact ⟨Int32.not_lt.mp (nI_pos (by omega)), nI_le (by omega) (by omega)⟩
theorem rg_of {M : Nat} {v : Int32} (hM : M < 2 ^ 31) (h : 0 ≤ v ∧ v ≤ nI M) : ∃ i, i ≤ M ∧ v = nI i := by
  obtain ⟨i, hi, rfl⟩ := nI_of (Int32.not_lt.mpr h.1)
  refine ⟨i, ?_, rfl⟩
  rcases Nat.lt_or_ge M i with q | q
  · exact absurd h.2 (nI_ge q hi)
  · exact q
def tolF (f : Row) (i : Nat) (w : Int32) : Int32 := if w = 0 then f (tI i 0) else if w = 1 then f (tI i 1) else if w = 2 then f (tI i 2) else if w = 3 then f (tI i 3) else if w = 4 then f (tI i 4) else if w = 5 then f (tI i 5) else if w = 6 then f (tI i 6) else if w = 7 then sgf f i else if w = 8 then wth (f (tI i 0)) (f (tI i 1)) (f (tI i 2)) else -1000000001
section XO
variable {l : Launch} {G : ab_G} {ol : ab_Ol} {d : Nat} {sh : ab_S} {rf : ab_R} {nx : Nat} {K : ab_K} {mem : ab_N} {N : Nat} {f : Row}
theorem s_isT (hS : St sh rf nx) (hR : RW mem 4 N f) {v : Int32} (h : K (some (.int (if 0 ≤ v ∧ v ≤ nI N - 1 then 1 else 0))) sh rf mem nx) : ab_Cx l G ol (d + 2) mX_isTraveller [.ref 0, .int v] sh rf mem nx K := s_isTraveller hS (by rw [hR.1.2.1]; exact h)
theorem x_traveller (hS : St sh rf nx) (hN : N ≤ 8) (hR : RW mem 4 N f) {a b c : Int32} (hB : ¬ ((0 ≤ a ∧ a ≤ 5) ∧ (0 ≤ b ∧ b ≤ 99) ∧ (0 ≤ c ∧ c ≤ 99)) → K (some (.int (-1000000001))) sh rf mem nx) (hF : (0 ≤ a ∧ a ≤ 5) ∧ (0 ≤ b ∧ b ≤ 99) ∧ (0 ≤ c ∧ c ≤ 99) → N = 8 → K (some (.int (-1000000003))) sh rf mem nx) (hC : (0 ≤ a ∧ a ≤ 5) ∧ (0 ≤ b ∧ b ≤ 99) ∧ (0 ≤ c ∧ c ≤ 99) → N < 8 → ∀ mem', Fr 4 mem mem' → mem' 3 = mem 3 → RW mem' 4 (N + 1) (comF f N a b c) → K (some (.int (nI N))) sh rf mem' nx) : ab_Cx l G ol (d + 3) mX_traveller [.ref 0, .int a, .int b, .int c] sh rf mem nx K := by
  have i0 : ab_is sh nx 0 8 := is_of hS rfl rfl
  have i4 : ab_is sh nx 4 7 := is_of hS rfl rfl
  refine e_mX_traveller ⟨by decide, s_isKind ⟨_, rfl, br0 (fun h1 => ⟨by decide, s_within ⟨_, rfl, br0 (fun h2 => ⟨by decide, s_within ⟨_, rfl, br1 (fun h3 => ⟨i0, rd_of hS rfl rfl ⟨i4, ?_⟩⟩) (fun h3 => ⟨trivial, hB fun q => h3 q.2.2⟩)⟩⟩) (fun h2 => ⟨trivial, hB fun q => h2 q.2.1⟩)⟩⟩) (fun h1 => ⟨trivial, hB fun q => h1 q.1⟩)⟩⟩
  rw [hR.1.2.1]
  refine ⟨fun q => ⟨i0, rd_of hS rfl rfl ⟨i4, s_comes (d := d) hS w4 ?_ hR fun mem' q1 q2 q3 => ⟨_, rfl, trivial, hC ⟨h1, h2, h3⟩ ?_ mem' q1 q2 q3⟩⟩⟩, fun q => ⟨trivial, hF ⟨h1, h2, h3⟩ ?_⟩⟩
  · rcases Nat.lt_or_ge N 8 with g | g
    · exact g
    · have : N = 8 := by omega
      subst this; exact absurd q (by decide)
  · rcases Nat.lt_or_ge N 8 with g | g
    · exact g
    · have : N = 8 := by omega
      subst this; exact absurd q (by decide)
  · rcases Nat.lt_or_ge N 8 with g | g
    · exact absurd (nI_lt (b := 8) g (by decide)) q
    · omega
theorem x_told (hS : St sh rf nx) (hN : N ≤ 8) (hR : RW mem 4 N f) {t w : Int32} (hB : ¬ (0 ≤ t ∧ t ≤ nI N - 1) → K (some (.int (-1000000001))) sh rf mem nx) (hK : ∀ i, i < N → t = nI i → K (some (.int (tolF f i w))) sh rf mem nx) : ab_Cx l G ol (d + 3) mX_told [.ref 0, .int t, .int w] sh rf mem nx K := by
  have i0 : ab_is sh nx 0 8 := is_of hS rfl rfl
  have i4 : ab_is sh nx 4 7 := is_of hS rfl rfl
  refine e_mX_told ⟨i0, s_isT hS hR ⟨_, rfl, br1 (fun h => ?_) (fun h => ⟨trivial, hB h⟩)⟩⟩
  obtain ⟨i, hi, rfl⟩ := ix_of (by omega) h
  have hi8 : i < 8 := by omega
  have it := td_is hS (wd_td w4 hi8)
  have hk := hK i hi rfl
  unfold tolF at hk
  have c0 := fun k hk => hR.2.1 i k hi hk
  refine ⟨i0, rd_of hS rfl rfl ⟨i4, wd_acc hS w4 hi8 ⟨fun q => ⟨it, trivial, ?_⟩, fun q0 => ⟨fun q => ⟨it, trivial, ?_⟩, fun q1 => ⟨fun q => ⟨it, trivial, ?_⟩, fun q2 => ⟨fun q => ⟨it, trivial, ?_⟩, fun q3 => ⟨fun q => ⟨it, trivial, ?_⟩, fun q4 => ⟨fun q => ⟨it, trivial, ?_⟩, fun q5 => ⟨fun q => ⟨it, trivial, ?_⟩, fun q6 => ⟨fun q => ⟨i0, rd_of hS rfl rfl ⟨i4, it, s_signsAt hS (wd_td w4 hi8) ⟨_, rfl, trivial, ?_⟩⟩⟩, fun q7 => ⟨fun q => ⟨it, s_worth hS (wd_td w4 hi8) ⟨_, rfl, trivial, ?_⟩⟩, fun q8 => ⟨trivial, ?_⟩⟩⟩⟩⟩⟩⟩⟩⟩⟩⟩⟩
  · rw [c0 0 (by decide)]; rw [if_pos q] at hk; exact hk
  · rw [c0 1 (by decide)]; rw [if_neg q0, if_pos q] at hk; exact hk
  · rw [c0 2 (by decide)]; rw [if_neg q0, if_neg q1, if_pos q] at hk; exact hk
  · rw [c0 3 (by decide)]; rw [if_neg q0, if_neg q1, if_neg q2, if_pos q] at hk; exact hk
  · rw [c0 4 (by decide)]; rw [if_neg q0, if_neg q1, if_neg q2, if_neg q3, if_pos q] at hk; exact hk
  · rw [c0 5 (by decide)]; rw [if_neg q0, if_neg q1, if_neg q2, if_neg q3, if_neg q4, if_pos q] at hk; exact hk
  · rw [c0 6 (by decide)]; rw [if_neg q0, if_neg q1, if_neg q2, if_neg q3, if_neg q4, if_neg q5, if_pos q] at hk; exact hk
  · rw [hR.sg hi]; rw [if_neg q0, if_neg q1, if_neg q2, if_neg q3, if_neg q4, if_neg q5, if_neg q6, if_pos q] at hk; exact hk
  · rw [c0 0 (by decide), c0 1 (by decide), c0 2 (by decide)]; rw [if_neg q0, if_neg q1, if_neg q2, if_neg q3, if_neg q4, if_neg q5, if_neg q6, if_neg q7, if_pos q] at hk; exact hk
  · rw [if_neg q0, if_neg q1, if_neg q2, if_neg q3, if_neg q4, if_neg q5, if_neg q6, if_neg q7, if_neg q8] at hk; exact hk
theorem x_claim (hS : St sh rf nx) (hN : N ≤ 8) (hR : RW mem 4 N f) {t w : Int32} (hB : ¬ ((0 ≤ t ∧ t ≤ nI N - 1) ∧ (0 ≤ w ∧ w ≤ 5)) → K (some (.int (-1000000001))) sh rf mem nx) (hK : ∀ i j, i < N → j < 6 → t = nI i → w = nI j → K (some (.int (f (tI i (7 + j))))) sh rf mem nx) : ab_Cx l G ol (d + 3) mX_claim [.ref 0, .int t, .int w] sh rf mem nx K := by
  have i0 : ab_is sh nx 0 8 := is_of hS rfl rfl
  have i4 : ab_is sh nx 4 7 := is_of hS rfl rfl
  refine e_mX_claim ⟨i0, s_isT hS hR ⟨_, rfl, br0 (fun h => ⟨by decide, s_within ⟨_, rfl, br1 (fun h2 => ?_) (fun h2 => ⟨trivial, hB fun q => h2 q.2⟩)⟩⟩) (fun h => ⟨trivial, hB fun q => h q.1⟩)⟩⟩
  obtain ⟨i, hi, rfl⟩ := ix_of (by omega) h
  obtain ⟨j, hj, rfl⟩ := rg_of (M := 5) (by omega) h2
  have hi8 : i < 8 := by omega
  have ht := wd_td w4 hi8
  refine ⟨i0, rd_of hS rfl rfl ⟨i4, wd_acc hS w4 hi8 ⟨td_is hS ht, td_rd hS ht ⟨td_is1 hS ht, td_in hS ht (vp_in_nI (by omega) (by decide)), trivial, ?_⟩⟩⟩⟩
  rw [cl_nI (by omega), show 4 + 3 + 2 * i + 1 = 4 + 4 + 2 * i by omega, hR.2.2 i j hi (by omega)]
  exact hK i j hi (by omega) rfl rfl
theorem x_costs (hS : St sh rf nx) (hN : N ≤ 8) (hR : RW mem 4 N f) {o : Option (Row × Nat)} (hL : LW sh rf nx mem (mem 6 0) o) {t w : Int32} (hB : ¬ ((0 ≤ t ∧ t ≤ nI N - 1) ∧ (0 ≤ w ∧ w ≤ 19)) → K (some (.int (-1000000001))) sh rf mem nx) (hK : ∀ i j, i < N → j < 20 → t = nI i → w = nI j → ∀ mem' : ab_N, (∀ q, q ≠ 3 → mem' q = mem q) → K (some (.int (ctO o (f (tI i 1)) (nI j) (f 2)))) sh rf mem' nx) : ab_Cx l G ol (d + 4) mX_costs [.ref 0, .int t, .int w] sh rf mem nx K := by
  have i0 : ab_is sh nx 0 8 := is_of hS rfl rfl
  have i4 : ab_is sh nx 4 7 := is_of hS rfl rfl
  refine e_mX_costs ⟨i0, s_isT hS hR ⟨_, rfl, br0 (fun h => ⟨by decide, s_within ⟨_, rfl, br1 (fun h2 => ?_) (fun h2 => ⟨trivial, hB fun q => h2 q.2⟩)⟩⟩) (fun h => ⟨trivial, hB fun q => h q.1⟩)⟩⟩
  obtain ⟨i, hi, rfl⟩ := ix_of (by omega) h
  obtain ⟨j, hj, rfl⟩ := rg_of (M := 19) (by omega) h2
  have hi8 : i < 8 := by omega
  have ht := wd_td w4 hi8
  refine ⟨i0, rd_of hS rfl rfl ⟨i0, rd_of hS rfl rfl ⟨i4, wd_acc hS w4 hi8 ⟨i4, s_costOf (d := d) hS w4 ht hL fun mem' hF => ⟨_, rfl, trivial, ?_⟩⟩⟩⟩⟩
  rw [hR.2.1 i 1 hi (by decide), hR.1.2.2.2.1]
  exact hK i j hi (by omega) rfl rfl mem' hF
theorem x_asksFor (hS : St sh rf nx) (hN : N ≤ 8) (hR : RW mem 4 N f) {t w : Int32} (hB : ¬ ((0 ≤ t ∧ t ≤ nI N - 1) ∧ (0 ≤ w ∧ w ≤ 999)) → K (some (.int (-1000000001))) sh rf mem nx) (hK : ∀ i j, i < N → j < 1000 → t = nI i → w = nI j → K (some (.int (ask (f (tI i 0)) (f (tI i 2)) (f (tI i 6)) (f 3) (nI j)))) sh rf mem nx) : ab_Cx l G ol (d + 3) mX_asksFor [.ref 0, .int t, .int w] sh rf mem nx K := by
  have i0 : ab_is sh nx 0 8 := is_of hS rfl rfl
  have i4 : ab_is sh nx 4 7 := is_of hS rfl rfl
  refine e_mX_asksFor ⟨i0, s_isT hS hR ⟨_, rfl, br0 (fun h => ⟨by decide, s_within ⟨_, rfl, br1 (fun h2 => ?_) (fun h2 => ⟨trivial, hB fun q => h2 q.2⟩)⟩⟩) (fun h => ⟨trivial, hB fun q => h q.1⟩)⟩⟩
  obtain ⟨i, hi, rfl⟩ := ix_of (by omega) h
  obtain ⟨j, hj, rfl⟩ := rg_of (M := 999) (by omega) h2
  have hi8 : i < 8 := by omega
  have ht := wd_td w4 hi8
  refine ⟨i0, rd_of hS rfl rfl ⟨i4, wd_acc hS w4 hi8 ⟨i0, rd_of hS rfl rfl ⟨i4, td_is hS ht, s_wants hS ht ⟨_, rfl, trivial, ?_⟩⟩⟩⟩⟩
  rw [hR.2.1 i 0 hi (by decide), hR.2.1 i 2 hi (by decide), hR.2.1 i 6 hi (by decide), hR.1.2.2.2.2.1]
  exact hK i j hi (by omega) rfl rfl
/-- KIND_ABOVE, as the class's start makes it -/
def KA (ol : ab_Ol) : Prop := (ol 1).1 = 6 ∧ (ol 1).2 0 = -1 ∧ (ol 1).2 1 = 0 ∧ (ol 1).2 2 = 0 ∧ (ol 1).2 3 = 1 ∧ (ol 1).2 4 = 2 ∧ (ol 1).2 5 = 0
set_option maxHeartbeats 2000000 in
theorem s_isOf (hS : St sh rf nx) {t : Nat} (ht : Td t) (hA : KA ol) {k : Nat} (hk : k < 6) (hm : mem t 0 = nI k) {o : Nat} (ho : o < 6) (h : K (some (.int (if und (nI k) (nI o) then 1 else 0))) sh rf mem nx) : ab_Cx l G ol (d + 1) mTr_isOf [.ref t, .int (nI o)] sh rf mem nx K := by
  obtain ⟨a0, a1, a2, a3, a4, a5, a6⟩ := hA
  refine e_mTr_isOf ⟨td_is hS ht, ?_⟩
  rw [hm]
  clear hm
  have vo : ∀ i, i < 6 → vp_in (nI i) (ol (ab_old + 1 - ab_old)).1 := fun i hi => by
    rw [show ab_old + 1 - ab_old = 1 by decide, a0]; exact vp_in_nI hi (by decide)
  have ge : ab_old ≤ ab_old + 1 := by decide
  have le : ab_old + 1 < ab_old + 2 := by decide
  -- at i: what is above
  have st : ∀ (j : Nat) (c : Nat), j < 6 → c < 6 → (c = o → K (some (.int 1)) sh rf mem nx) → (c ≠ o → ab_Go l G ol d mTr_isOf (ab_mc mTr_isOf) (ab_ms mTr_isOf) (fun r sh rf mem nx _ _ => K r sh rf mem nx) 7 [.ref t, .int (nI o), .int ((ol 1).2 c), .int (nI j + 1)] [] sh rf mem nx 0 0) → ab_Go l G ol d mTr_isOf (ab_mc mTr_isOf) (ab_ms mTr_isOf) (fun r sh rf mem nx _ _ => K r sh rf mem nx) 7 [.ref t, .int (nI o), .int (nI c), .int (nI j)] [] sh rf mem nx 0 0 := by
    intro j c hj hc hy hn
    refine h_mTr_isOf_7 ⟨fun q => absurd q (nI_ge (b := 6) hj (by decide)), fun _ => ⟨fun q => absurd q (nI_pos (by omega)), fun _ => ⟨fun q => ⟨ge, le, vo c hc, ?_⟩, fun q => ⟨Or.inr rfl, hy ((nI_eq (by omega) (by omega)).mp q)⟩⟩⟩⟩
    rw [show ab_old + 1 - ab_old = 1 by decide, cl_nI (by omega)]
    exact hn fun e => q (by rw [e])
  have en : ∀ (j : Int32), ¬ 6 ≤ j → K (some (.int 0)) sh rf mem nx → ab_Go l G ol d mTr_isOf (ab_mc mTr_isOf) (ab_ms mTr_isOf) (fun r sh rf mem nx _ _ => K r sh rf mem nx) 7 [.ref t, .int (nI o), .int (-1), .int j] [] sh rf mem nx 0 0 := fun j hj h => h_mTr_isOf_7 ⟨fun q => absurd q hj, fun _ => ⟨fun _ => ⟨Or.inl rfl, h⟩, fun q => absurd (by decide) q⟩⟩
  have top : ∀ j, j < 5 → (o = 0 → K (some (.int 1)) sh rf mem nx) → (o ≠ 0 → K (some (.int 0)) sh rf mem nx) → ab_Go l G ol d mTr_isOf (ab_mc mTr_isOf) (ab_ms mTr_isOf) (fun r sh rf mem nx _ _ => K r sh rf mem nx) 7 [.ref t, .int (nI o), .int (nI 0), .int (nI j)] [] sh rf mem nx 0 0 := fun j hj h1 h2 => st j 0 (by omega) (by decide) (fun e => h1 e.symm) fun e => by
    rw [a1]
    exact en _ (by rw [nI_1]; exact nI_ge (b := 6) (by omega) (by decide)) (h2 fun q => e q.symm)
  have U0 : ∀ p, p < 36 → (decide (und (nI (p / 6)) (nI (p % 6))) = decide (p / 6 = p % 6 ∨ p % 6 = 0 ∨ (p / 6 = 3 ∧ p % 6 = 1) ∨ (p / 6 = 4 ∧ p % 6 = 2))) := by decide +kernel
  have U : ∀ k, k < 6 → ∀ o, o < 6 → (und (nI k) (nI o) ↔ (k = o ∨ o = 0 ∨ (k = 3 ∧ o = 1) ∨ (k = 4 ∧ o = 2))) := by
    intro k hk o ho
    have := decide_eq_decide.mp (U0 (6 * k + o) (by omega))
    rw [show (6 * k + o) / 6 = k by omega, show (6 * k + o) % 6 = o by omega] at this
    exact this
  have Y : (k = o ∨ o = 0 ∨ (k = 3 ∧ o = 1) ∨ (k = 4 ∧ o = 2)) → K (some (.int 1)) sh rf mem nx := fun q => by rw [if_pos ((U k hk o ho).mpr q)] at h; exact h
  have Z : ¬ (k = o ∨ o = 0 ∨ (k = 3 ∧ o = 1) ∨ (k = 4 ∧ o = 2)) → K (some (.int 0)) sh rf mem nx := fun q => by rw [if_neg (fun z => q ((U k hk o ho).mp z))] at h; exact h
  show ab_Go l G ol d mTr_isOf (ab_mc mTr_isOf) (ab_ms mTr_isOf) (fun r sh rf mem nx _ _ => K r sh rf mem nx) 7 [.ref t, .int (nI o), .int (nI k), .int (nI 0)] [] sh rf mem nx 0 0
  have one : ∀ c : Nat, c = 1 ∨ c = 2 ∨ c = 5 → (ol 1).2 c = nI 0 := by
    rintro c (rfl | rfl | rfl)
    · exact a2
    · exact a3
    · exact a6
  by_cases k0 : k = 0
  · subst k0; exact top 0 (by decide) (fun e => Y (by omega)) (fun e => Z (by omega))
  · by_cases k1 : k = 1 ∨ k = 2 ∨ k = 5
    · refine st 0 k (by decide) hk (fun e => Y (by omega)) fun e => ?_
      rw [one k k1, nI_1]
      exact top 1 (by decide) (fun e => Y (by omega)) (fun e => Z (by omega))
    · have : k = 3 ∨ k = 4 := by omega
      have e2 : ∃ c, (c = 1 ∨ c = 2) ∧ (ol 1).2 k = nI c ∧ (k = 3 ↔ c = 1) := by
        rcases this with rfl | rfl
        · exact ⟨1, Or.inl rfl, a4, by omega⟩
        · exact ⟨2, Or.inr rfl, a5, by omega⟩
      obtain ⟨c, hc, ec, hc1⟩ := e2
      refine st 0 k (by decide) hk (fun e => Y (by omega)) fun e => ?_
      rw [ec, nI_1]
      refine st 1 c (by decide) (by omega) (fun e => Y (by omega)) fun e => ?_
      rw [one c (by omega), nI_1]
      exact top 2 (by decide) (fun e => Y (by omega)) (fun e => Z (by omega))
theorem x_as (hS : St sh rf nx) (hN : N ≤ 8) (hR : RW mem 4 N f) (hA : KA ol) (hk : ∀ i, i < N → ∃ k, k < 6 ∧ f (tI i 0) = nI k) {t w : Int32} (hB : ¬ ((0 ≤ t ∧ t ≤ nI N - 1) ∧ (0 ≤ w ∧ w ≤ 5)) → K (some (.int (-1000000001))) sh rf mem nx) (hK : ∀ i, i < N → (0 ≤ w ∧ w ≤ 5) → t = nI i → K (some (.int (if und (f (tI i 0)) w then f (tI i 1) else -1000000012))) sh rf mem nx) : ab_Cx l G ol (d + 3) mX_as [.ref 0, .int t, .int w] sh rf mem nx K := by
  have i0 : ab_is sh nx 0 8 := is_of hS rfl rfl
  have i4 : ab_is sh nx 4 7 := is_of hS rfl rfl
  refine e_mX_as ⟨i0, s_isT hS hR ⟨_, rfl, br0 (fun h => ⟨by decide, s_isKind ⟨_, rfl, br1 (fun h2 => ?_) (fun h2 => ⟨trivial, hB fun q => h2 q.2⟩)⟩⟩) (fun h => ⟨trivial, hB fun q => h q.1⟩)⟩⟩
  obtain ⟨i, hi, rfl⟩ := ix_of (by omega) h
  have hkk := hK i hi h2 rfl
  obtain ⟨o, ho, rfl⟩ := rg_of (M := 5) (by omega) h2
  have hi8 : i < 8 := by omega
  have ht := wd_td w4 hi8
  obtain ⟨k, hk6, ek⟩ := hk i hi
  refine ⟨i0, rd_of hS rfl rfl ⟨i4, wd_acc hS w4 hi8 ⟨td_is hS ht, s_isOf hS ht hA hk6 (by rw [hR.2.1 i 0 hi (by decide)]; exact ek) (by omega) ⟨_, rfl, br0 (fun q => ⟨td_is hS ht, trivial, ?_⟩) (fun q => ⟨trivial, ?_⟩)⟩⟩⟩⟩
  · rw [hR.2.1 i 1 hi (by decide)]; rw [ek, if_pos q] at hkk; exact hkk
  · rw [ek, if_neg q] at hkk; exact hkk
/-- a traveller's field changes -/
theorem RW.put {mem : ab_N} {w N i k : Nat} {f : Row} (h : RW mem w N f) (hi : i < N) (hk : k < 7) (v : Int32) : RW (ab_w mem (w + 3 + 2 * i) k v) w N (upd f (tI i k) v) := by
  obtain ⟨⟨a1, a2, a3, a4, a5, a6, a7, a8⟩, h9, h10⟩ := h
  have ow : ∀ q, ab_w mem (w + 3 + 2 * i) k v w q = mem w q := fun q => w_ne _ _ (Or.inl (by omega))
  have u : ∀ q, q ≠ tI i k → upd f (tI i k) v q = f q := fun q hq => pk_un hq
  refine ⟨⟨by rw [ow, u 0 (by unfold tI; omega)]; exact a1, by rw [ow]; exact a2, by rw [u 1 (by unfold tI; omega)]; exact a3, by rw [ow, u 2 (by unfold tI; omega)]; exact a4, by rw [ow, u 3 (by unfold tI; omega)]; exact a5, by rw [ow, u 4 (by unfold tI; omega)]; exact a6, by rw [ow, u 5 (by unfold tI; omega)]; exact a7, by rw [ow, u 6 (by unfold tI; omega)]; exact a8⟩, fun j q hj hq => ?_, fun j q hj hq => ?_⟩
  · by_cases e : j = i ∧ q = k
    · obtain ⟨rfl, rfl⟩ := e
      rw [w_eq]; simp [upd]
    · rw [w_ne _ _ (by omega), u _ (by unfold tI; omega)]; exact h9 j q hj hq
  · rw [w_ne _ _ (Or.inl (by omega)), u _ (by unfold tI; omega)]; exact h10 j q hj hq
theorem x_turns (hS : St sh rf nx) (hN : N ≤ 8) (hR : RW mem 4 N f) {t w : Int32} (hB : ¬ ((0 ≤ t ∧ t ≤ nI N - 1) ∧ (0 ≤ w ∧ w ≤ 5)) → K (some (.int (-1000000001))) sh rf mem nx) (hK : ∀ i, i < N → (0 ≤ w ∧ w ≤ 5) → t = nI i → K (some (.int (f (tI i 0)))) sh rf (ab_w mem (4 + 3 + 2 * i) 0 w) nx) : ab_Cx l G ol (d + 3) mX_turns [.ref 0, .int t, .int w] sh rf mem nx K := by
  have i0 : ab_is sh nx 0 8 := is_of hS rfl rfl
  have i4 : ab_is sh nx 4 7 := is_of hS rfl rfl
  refine e_mX_turns ⟨i0, s_isT hS hR ⟨_, rfl, br0 (fun h => ⟨by decide, s_isKind ⟨_, rfl, br1 (fun h2 => ?_) (fun h2 => ⟨trivial, hB fun q => h2 q.2⟩)⟩⟩) (fun h => ⟨trivial, hB fun q => h q.1⟩)⟩⟩
  obtain ⟨i, hi, rfl⟩ := ix_of (by omega) h
  have hi8 : i < 8 := by omega
  have ht := wd_td w4 hi8
  refine ⟨i0, rd_of hS rfl rfl ⟨i4, wd_acc hS w4 hi8 ⟨td_is hS ht, td_is hS ht, trivial, ?_⟩⟩⟩
  rw [hR.2.1 i 0 hi (by decide)]
  exact hK i hi h2 rfl
theorem x_set (hS : St sh rf nx) (hN : N ≤ 8) (hR : RW mem 4 N f) {t w v : Int32} (hB : ¬ ((0 ≤ t ∧ t ≤ nI N - 1) ∧ (w = 1 ∨ w = 2) ∧ (0 ≤ v ∧ v ≤ 99)) → K (some (.int (-1000000001))) sh rf mem nx) (hK : ∀ i k, i < N → k = 1 ∨ k = 2 → w = nI k → (0 ≤ v ∧ v ≤ 99) → t = nI i → K (some (.int (f (tI i k)))) sh rf (ab_w mem (4 + 3 + 2 * i) k v) nx) : ab_Cx l G ol (d + 3) mX_set [.ref 0, .int t, .int w, .int v] sh rf mem nx K := by
  have i0 : ab_is sh nx 0 8 := is_of hS rfl rfl
  have i4 : ab_is sh nx 4 7 := is_of hS rfl rfl
  refine e_mX_set ⟨i0, s_isT hS hR ⟨_, rfl, br1 (fun h => ?_) (fun h => ⟨trivial, hB fun q => h q.1⟩)⟩⟩
  obtain ⟨i, hi, rfl⟩ := ix_of (by omega) h
  have hi8 : i < 8 := by omega
  have ht := wd_td w4 hi8
  have it := td_is hS ht
  refine ⟨i0, rd_of hS rfl rfl ⟨i4, wd_acc hS w4 hi8 ⟨fun q1 => ⟨fun q2 => ⟨trivial, hB fun q => ?_⟩, fun q2 => ⟨by decide, s_within ⟨_, rfl, br0 (fun q3 => ⟨it, it, trivial, ?_⟩) (fun q3 => ⟨trivial, hB fun q => q3 q.2.2⟩)⟩⟩⟩, fun q1 => ⟨by decide, s_within ⟨_, rfl, br0 (fun q3 => ⟨it, it, trivial, ?_⟩) (fun q3 => ⟨fun q2 => ⟨trivial, hB fun q => q3 q.2.2⟩, fun q2 => absurd (q1.symm.trans q2) (by decide)⟩)⟩⟩⟩⟩⟩
  · rcases q.2.1 with z | z
    · exact q1 z
    · exact q2 z
  · rw [hR.2.1 i 2 hi (by decide)]; exact hK i 2 hi (Or.inr rfl) q2 q3 rfl
  · rw [hR.2.1 i 1 hi (by decide)]; exact hK i 1 hi (Or.inl rfl) q1 q3 rfl
theorem x_seed (hS : St sh rf nx) (hR : RW mem 4 N f) {v : Int32} (hK : K (some (.int (f 0))) sh rf (ab_w mem 4 7 v) nx) : ab_Cx l G ol (d + 1) mX_seed [.ref 0, .int v] sh rf mem nx K := by
  have i0 : ab_is sh nx 0 8 := is_of hS rfl rfl
  have i4 : ab_is sh nx 4 7 := is_of hS rfl rfl
  refine e_mX_seed ⟨i0, rd_of hS rfl rfl ⟨i4, i0, rd_of hS rfl rfl ⟨i4, trivial, ?_⟩⟩⟩
  rw [hR.1.1]
  exact hK
/-- a world's own number changes -/
theorem RW.wput {mem : ab_N} {w N : Nat} {f : Row} (h : RW mem w N f) {k q : Nat} (hk : (k = 3 ∧ q = 3) ∨ (k = 4 ∧ q = 4) ∨ (k = 5 ∧ q = 5)) (v : Int32) : RW (ab_w mem w k v) w N (upd f q v) := by
  obtain ⟨⟨a1, a2, a3, a4, a5, a6, a7, a8⟩, h9, h10⟩ := h
  have ow : ∀ j, j ≠ k → ab_w mem w k v w j = mem w j := fun j hj => w_ne _ _ (Or.inr hj)
  have u : ∀ j, j ≠ q → upd f q v j = f j := fun j hj => pk_un hj
  refine ⟨⟨by rw [ow 7 (by omega), u 0 (by omega)]; exact a1, by rw [ow 2 (by omega)]; exact a2, by rw [u 1 (by omega)]; exact a3, by rw [ow 6 (by omega), u 2 (by omega)]; exact a4, ?_, ?_, ?_, by rw [ow 8 (by omega), u 6 (by omega)]; exact a8⟩, fun j p hj hp => ?_, fun j p hj hp => ?_⟩
  · by_cases e : k = 3
    · obtain rfl : q = 3 := by omega
      subst e; rw [w_eq]; simp [upd]
    · rw [ow 3 (by omega), u 3 (by omega)]; exact a5
  · by_cases e : k = 4
    · obtain rfl : q = 4 := by omega
      subst e; rw [w_eq]; simp [upd]
    · rw [ow 4 (by omega), u 4 (by omega)]; exact a6
  · by_cases e : k = 5
    · obtain rfl : q = 5 := by omega
      subst e; rw [w_eq]; simp [upd]
    · rw [ow 5 (by omega), u 5 (by omega)]; exact a7
  · rw [w_ne _ _ (Or.inl (by omega)), u _ (by unfold tI; omega)]; exact h9 j p hj hp
  · rw [w_ne _ _ (Or.inl (by omega)), u _ (by unfold tI; omega)]; exact h10 j p hj hp
theorem x_rule (hS : St sh rf nx) (hR : RW mem 4 N f) {w v : Int32} (hB : ¬ ((w = 0 ∧ 1 ≤ v ∧ v ≤ 999) ∨ (w = 1 ∧ 0 ≤ v ∧ v ≤ 8) ∨ (w = 2 ∧ 0 ≤ v ∧ v ≤ 1)) → K (some (.int (-1000000001))) sh rf mem nx) (h0 : w = 0 → 1 ≤ v ∧ v ≤ 999 → K (some (.int (f 3))) sh rf (ab_w mem 4 3 v) nx) (h1 : w = 1 → 0 ≤ v ∧ v ≤ 8 → K (some (.int (f 4))) sh rf (ab_w mem 4 4 v) nx) (h2 : w = 2 → 0 ≤ v ∧ v ≤ 1 → K (some (.int (f 5))) sh rf (ab_w mem 4 5 v) nx) : ab_Cx l G ol (d + 2) mX_rule [.ref 0, .int w, .int v] sh rf mem nx K := by
  have i0 : ab_is sh nx 0 8 := is_of hS rfl rfl
  have i4 : ab_is sh nx 4 7 := is_of hS rfl rfl
  have r3 := hR.1.2.2.2.2.1
  have r4 := hR.1.2.2.2.2.2.1
  have r5 := hR.1.2.2.2.2.2.2.1
  refine e_mX_rule ⟨fun q0 => ⟨fun q1 => ⟨fun q2 => ⟨trivial, hB ?_⟩, fun q2 => ⟨by decide, s_within ⟨_, rfl, br0 (fun q => ⟨i0, rd_of hS rfl rfl ⟨i4, i0, rd_of hS rfl rfl ⟨i4, trivial, ?_⟩⟩⟩) (fun q => ⟨trivial, hB ?_⟩)⟩⟩⟩, fun q1 => ⟨by decide, s_within ⟨_, rfl, br0 (fun q => ⟨i0, rd_of hS rfl rfl ⟨i4, i0, rd_of hS rfl rfl ⟨i4, trivial, ?_⟩⟩⟩) (fun q => ⟨fun q2 => ⟨trivial, hB ?_⟩, fun q2 => absurd (q1.symm.trans q2) (by decide)⟩)⟩⟩⟩, fun q0 => ⟨by decide, s_within ⟨_, rfl, br0 (fun q => ⟨i0, rd_of hS rfl rfl ⟨i4, i0, rd_of hS rfl rfl ⟨i4, trivial, ?_⟩⟩⟩) (fun q => ⟨fun q1 => ⟨fun q2 => ⟨trivial, hB ?_⟩, fun q2 => absurd (q0.symm.trans q2) (by decide)⟩, fun q1 => absurd (q0.symm.trans q1) (by decide)⟩)⟩⟩⟩
  · rintro (z | z | z)
    · exact q0 z.1
    · exact q1 z.1
    · exact q2 z.1
  · rw [r5]; exact h2 q2 q
  · rintro (z | z | z)
    · exact q0 z.1
    · exact q1 z.1
    · exact q z.2
  · rw [r4]; exact h1 q1 q
  · rintro (z | z | z)
    · exact q0 z.1
    · exact q z.2
    · exact q2 z.1
  · rw [r3]; exact h0 q0 q
  · rintro (z | z | z)
    · exact q z.2
    · exact q1 z.1
    · exact q2 z.1
def conF (f : Row) (N : Nat) (w : Int32) : Int32 := if w = 0 then smF f 3 N else if w = 1 then smF f 4 N else if w = 2 then padF f N else if w = 3 then smF f 5 N else if w = 4 then (if N = 0 then -1000000005 else bI (bst (sgf f) noB N)) else -1000000001
theorem x_coins (hS : St sh rf nx) (hN : N ≤ 8) (hR : RW mem 4 N f) {w : Int32} (hK : K (some (.int (conF f N w))) sh rf mem nx) : ab_Cx l G ol (d + 3) mX_coins [.ref 0, .int w] sh rf mem nx K := by
  have i0 : ab_is sh nx 0 8 := is_of hS rfl rfl
  have i4 : ab_is sh nx 4 7 := is_of hS rfl rfl
  unfold conF at hK
  refine e_mX_coins ⟨fun q => ?_, fun q0 => ⟨fun q => ?_, fun q1 => ⟨fun q => ?_, fun q2 => ⟨fun q => ?_, fun q3 => ⟨fun q => ?_, fun q4 => ?_⟩⟩⟩⟩⟩
  · rw [if_pos q] at hK; exact ⟨i0, rd_of hS rfl rfl ⟨i4, s_spentOfAll hS w4 hN hR ⟨_, rfl, trivial, hK⟩⟩⟩
  · rw [if_neg q0, if_pos q] at hK; exact ⟨i0, rd_of hS rfl rfl ⟨i4, s_claimedOfAll hS w4 hN hR ⟨_, rfl, trivial, hK⟩⟩⟩
  · rw [if_neg q0, if_neg q1, if_pos q] at hK; exact ⟨i0, rd_of hS rfl rfl ⟨i4, s_pad hS w4 hN hR ⟨_, rfl, trivial, hK⟩⟩⟩
  · rw [if_neg q0, if_neg q1, if_neg q2, if_pos q] at hK; exact ⟨i0, rd_of hS rfl rfl ⟨i4, s_caughtOfAll hS w4 hN hR ⟨_, rfl, trivial, hK⟩⟩⟩
  · rw [if_neg q0, if_neg q1, if_neg q2, if_neg q3, if_pos q] at hK
    refine ⟨i0, rd_of hS rfl rfl ⟨i4, ?_⟩⟩
    rw [hR.1.2.1]
    refine ⟨fun z => ?_, fun z => ⟨trivial, ?_⟩⟩
    · have : N ≠ 0 := fun e => z (by rw [e]; rfl)
      rw [if_neg this] at hK
      exact ⟨i0, rd_of hS rfl rfl ⟨i4, s_mostSigns hS w4 hN (by omega) hR ⟨_, rfl, trivial, hK⟩⟩⟩
    · have : N = 0 := (nI_eq (b := 0) (by omega) (by omega)).mp z
      rw [if_pos this] at hK
      exact hK
  · rw [if_neg q0, if_neg q1, if_neg q2, if_neg q3, if_neg q4] at hK; exact ⟨trivial, hK⟩
def couF (f : Row) (W T w : Int32) : Int32 := if w = 0 then f 1 else if w = 1 then f 2 else if w = 2 then f 3 else if w = 3 then f 4 else if w = 4 then f 5 else if w = 5 then f 6 else if w = 6 then W else if w = 7 then T else if w = 8 then f 0 else -1000000001
theorem x_count (hS : St sh rf nx) (hR : RW mem 4 N f) {w : Int32} (hK : K (some (.int (couF f (mem 0 12) (mem 0 7) w))) sh rf mem nx) : ab_Cx l G ol (d + 1) mX_count [.ref 0, .int w] sh rf mem nx K := by
  have i0 : ab_is sh nx 0 8 := is_of hS rfl rfl
  have i4 : ab_is sh nx 4 7 := is_of hS rfl rfl
  obtain ⟨⟨a1, a2, a3, a4, a5, a6, a7, a8⟩, -⟩ := hR
  unfold couF at hK
  refine e_mX_count ⟨fun q => ⟨i0, rd_of hS rfl rfl ⟨i4, trivial, ?_⟩⟩, fun q0 => ⟨fun q => ⟨i0, rd_of hS rfl rfl ⟨i4, trivial, ?_⟩⟩, fun q1 => ⟨fun q => ⟨i0, rd_of hS rfl rfl ⟨i4, trivial, ?_⟩⟩, fun q2 => ⟨fun q => ⟨i0, rd_of hS rfl rfl ⟨i4, trivial, ?_⟩⟩, fun q3 => ⟨fun q => ⟨i0, rd_of hS rfl rfl ⟨i4, trivial, ?_⟩⟩, fun q4 => ⟨fun q => ⟨i0, rd_of hS rfl rfl ⟨i4, trivial, ?_⟩⟩, fun q5 => ⟨fun q => ⟨i0, trivial, ?_⟩, fun q6 => ⟨fun q => ⟨i0, trivial, ?_⟩, fun q7 => ⟨fun q => ⟨i0, rd_of hS rfl rfl ⟨i4, trivial, ?_⟩⟩, fun q8 => ⟨trivial, ?_⟩⟩⟩⟩⟩⟩⟩⟩⟩⟩
  · rw [if_pos q] at hK; rw [a2, ← a3]; exact hK
  · rw [if_neg q0, if_pos q] at hK; rw [a4]; exact hK
  · rw [if_neg q0, if_neg q1, if_pos q] at hK; rw [a5]; exact hK
  · rw [if_neg q0, if_neg q1, if_neg q2, if_pos q] at hK; rw [a6]; exact hK
  · rw [if_neg q0, if_neg q1, if_neg q2, if_neg q3, if_pos q] at hK; rw [a7]; exact hK
  · rw [if_neg q0, if_neg q1, if_neg q2, if_neg q3, if_neg q4, if_pos q] at hK; rw [a8]; exact hK
  · rw [if_neg q0, if_neg q1, if_neg q2, if_neg q3, if_neg q4, if_neg q5, if_pos q] at hK; exact hK
  · rw [if_neg q0, if_neg q1, if_neg q2, if_neg q3, if_neg q4, if_neg q5, if_neg q6, if_pos q] at hK; exact hK
  · rw [if_neg q0, if_neg q1, if_neg q2, if_neg q3, if_neg q4, if_neg q5, if_neg q6, if_neg q7, if_pos q] at hK; rw [a1]; exact hK
  · rw [if_neg q0, if_neg q1, if_neg q2, if_neg q3, if_neg q4, if_neg q5, if_neg q6, if_neg q7, if_neg q8] at hK; exact hK
theorem x_why (hS : St sh rf nx) {w : Int32} (hB : ¬ (0 ≤ w ∧ w ≤ 2) → K (some (.int (-1000000001))) sh rf mem nx) (hK : ∀ k, k < 3 → w = nI k → K (some (.int (mem 6 k))) sh rf mem nx) : ab_Cx l G ol (d + 2) mX_why [.ref 0, .int w] sh rf mem nx K := by
  have i0 : ab_is sh nx 0 8 := is_of hS rfl rfl
  have i4 : ab_is sh nx 4 7 := is_of hS rfl rfl
  refine e_mX_why ⟨by decide, s_within ⟨_, rfl, br1 (fun q => ?_) (fun q => ⟨trivial, hB q⟩)⟩⟩
  obtain ⟨k, hk, rfl⟩ := rg_of (M := 2) (by omega) q
  refine ⟨i0, rd_of hS rfl rfl ⟨i4, rd_of hS rfl rfl ⟨is_of hS rfl rfl, in_of hS rfl rfl (vp_in_nI (by omega : k < 3) (by decide)), trivial, ?_⟩⟩⟩
  rw [cl_nI (by omega)]
  exact hK k (by omega) rfl
theorem x_fee (hS : St sh rf nx) (hN : N ≤ 8) (hR : RW mem 4 N f) {o : Option (Row × Nat)} (hL : LW sh rf nx mem (mem 6 1) o) (hK : ∀ mem' : ab_N, (∀ q, q ≠ 3 → mem' q = mem q) → K (some (.int (lwV o (padF f N) (f 4) 0 (padF f N)))) sh rf mem' nx) : ab_Cx l G ol (d + 3) mX_fee [.ref 0] sh rf mem nx K := by
  have i0 : ab_is sh nx 0 8 := is_of hS rfl rfl
  have i4 : ab_is sh nx 4 7 := is_of hS rfl rfl
  refine e_mX_fee ⟨i0, rd_of hS rfl rfl ⟨i0, rd_of hS rfl rfl ⟨i4, rd_of hS rfl rfl ⟨is_of hS rfl rfl, in_of hS rfl rfl (pk_in 1 3 (by decide)), i0, rd_of hS rfl rfl ⟨i4, s_pad hS w4 hN hR ⟨_, rfl, i0, rd_of hS rfl rfl ⟨i4, i0, rd_of hS rfl rfl ⟨i4, s_pad hS w4 hN hR ⟨_, rfl, is_of hS rfl rfl, ?_⟩⟩⟩⟩⟩⟩⟩⟩⟩
  rw [hR.1.2.2.2.2.2.1]
  exact s_gives (d := d) hS hL fun mem' hF => ⟨_, rfl, trivial, hK mem' hF⟩
theorem x_fine (hS : St sh rf nx) (hN : N ≤ 8) (hR : RW mem 4 N f) {o : Option (Row × Nat)} (hL : LW sh rf nx mem (mem 6 2) o) {t : Int32} (hB : ¬ (0 ≤ t ∧ t ≤ nI N - 1) → K (some (.int (-1000000001))) sh rf mem nx) (hK : ∀ i, i < N → t = nI i → ∀ mem' : ab_N, (∀ q, q ≠ 3 → mem' q = mem q) → K (some (.int (lwV o (sgf f i) (f (tI i 5)) 0 (sgf f i)))) sh rf mem' nx) : ab_Cx l G ol (d + 3) mX_fine [.ref 0, .int t] sh rf mem nx K := by
  have i0 : ab_is sh nx 0 8 := is_of hS rfl rfl
  have i4 : ab_is sh nx 4 7 := is_of hS rfl rfl
  refine e_mX_fine ⟨i0, s_isT hS hR ⟨_, rfl, br1 (fun h => ?_) (fun h => ⟨trivial, hB h⟩)⟩⟩
  obtain ⟨i, hi, rfl⟩ := ix_of (by omega) h
  have hi8 : i < 8 := by omega
  have ht := wd_td w4 hi8
  refine ⟨i0, rd_of hS rfl rfl ⟨i4, wd_acc hS w4 hi8 ⟨i0, rd_of hS rfl rfl ⟨i4, td_is hS ht, s_signsAt hS ht ⟨_, rfl, i0, rd_of hS rfl rfl ⟨i0, rd_of hS rfl rfl ⟨i4, rd_of hS rfl rfl ⟨is_of hS rfl rfl, in_of hS rfl rfl (pk_in 2 3 (by decide)), td_is hS ht, is_of hS rfl rfl, ?_⟩⟩⟩⟩⟩⟩⟩⟩
  rw [hR.sg hi, hR.2.1 i 5 hi (by decide)]
  exact s_gives (d := d) hS hL fun mem' hF => ⟨_, rfl, trivial, hK i hi rfl mem' hF⟩
end XO
