/-! THE REFERENCE: which text counts, what it gives, what a day costs -/
def lastK (f : Row) (k : Nat) : Nat → Option Nat
  | 0 => none
  | n + 1 => if f (111 + 2 * n) / 1000 = nI k then some n else lastK f k n
def cdF (f : Row) (t : Nat) : Row := fun j => f (139 + 96 * t + j)
def lnF (f : Row) (t : Nat) : Nat := (rem (f (111 + 2 * t)) 1000).toNatClampNeg
def oF (f : Row) (k T : Nat) : Option (Row × Nat) := match lastK f k T with
  | none => none
  | some t => some (cdF f t, lnF f t)
/-- a text, as the reference keeps it -/
def TxW (f : Row) (t : Nat) : Prop := ∃ key n, key < 3 ∧ n ≤ 96 ∧ f (111 + 2 * t) = nI (1000 * key + n) ∧ wfC (cdF f t) n ∧ 1 ≤ tpC (cdF f t) n ∧ (key ≠ 0 → ∀ j, j < n → ¬ cdF f t j = 10002)
def TxT (f : Row) (T : Nat) : Prop := f 6 = nI T ∧ T ≤ 14 ∧ ∀ t, t < T → TxW f t
theorem lastK_lt {f : Row} {k : Nat} : ∀ {n b : Nat}, lastK f k n = some b → b < n ∧ f (111 + 2 * b) / 1000 = nI k
  | 0, b, h => by cases h
  | n + 1, b, h => by
    unfold lastK at h
    by_cases e : f (111 + 2 * n) / 1000 = nI k
    · rw [if_pos e] at h; cases h; exact ⟨Nat.lt_succ_self _, e⟩
    · rw [if_neg e] at h
      have := lastK_lt h
      exact ⟨Nat.lt_succ_of_lt this.1, this.2⟩
theorem lastK_congr {f g : Row} {k : Nat} (h : ∀ j, 111 ≤ j → g j = f j) : ∀ n, lastK g k n = lastK f k n
  | 0 => rfl
  | n + 1 => by unfold lastK; rw [h _ (by omega), lastK_congr h n]
theorem cdF_congr {f g : Row} (h : ∀ j, 111 ≤ j → g j = f j) (t : Nat) : cdF g t = cdF f t := by
  funext j; exact h _ (by omega)
theorem oF_congr {f g : Row} {k T : Nat} (h : ∀ j, 111 ≤ j → g j = f j) : oF g k T = oF f k T := by
  unfold oF lnF
  rw [lastK_congr h]
  cases lastK f k T with
  | none => rfl
  | some t => simp only; rw [cdF_congr h, h _ (by omega)]
theorem TxW_congr {f g : Row} {t : Nat} (h : ∀ j, 111 ≤ j → g j = f j) (hx : TxW f t) : TxW g t := by
  unfold TxW at *
  rw [cdF_congr h, h _ (by omega)]; exact hx
theorem TxT_congr {f g : Row} {T : Nat} (h6 : g 6 = f 6) (h : ∀ j, 111 ≤ j → g j = f j) (hx : TxT f T) : TxT g T := ⟨h6.trans hx.1, hx.2.1, fun t ht => TxW_congr h (hx.2.2 t ht)⟩
theorem tx_key {key n : Nat} (hk : key < 3) (hn : n ≤ 96) : nI (1000 * key + n) / 1000 = nI key ∧ rem (nI (1000 * key + n)) 1000 = nI n := by
  have e1 : (1000 : Int32) = nI 1000 := rfl
  constructor
  · rw [e1, pk_div (by omega) (by decide) (by decide)]; congr 1; omega
  · rw [e1, rem_nI (by omega) (by decide) (by decide)]; congr 1; omega
theorem tx_of {f : Row} {t key n : Nat} (hk : key < 3) (hn : n ≤ 96) (e : f (111 + 2 * t) = nI (1000 * key + n)) : lnF f t = n ∧ f (111 + 2 * t) / 1000 = nI key := by
  obtain ⟨a, b⟩ := tx_key hk hn
  unfold lnF
  rw [e, b, a, cl_nI (by omega)]
  exact ⟨rfl, rfl⟩
section MB
variable {l : Launch} {G : ab_G} {ol : ab_Ol} {d : Nat} {sh : ab_S} {rf : ab_R} {mem : ab_N} {nx : Nat} {K : ab_K}
theorem m_counts (hS : St sh rf nx) {T k : Nat} (hT : T ≤ 14) (h6 : mem 102 6 = nI T) (h : K (some (.int (bI (lastK (mem 102) k T)))) sh rf mem nx) : ab_Cx l G ol (d + 1) mM_counts [.ref 101, .int (nI k)] sh rf mem nx K := by
  refine e_mM_counts (mn hS (pk_in 6 1483 (by decide)) ?_)
  rw [show mem 102 (Int32.toNatClampNeg 6) = nI T from h6]
  suffices lp : ∀ m, m ≤ T → lastK (mem 102) k m = lastK (mem 102) k T → ab_Go l G ol d mM_counts (ab_mc mM_counts) (ab_ms mM_counts) (fun r sh rf mem nx _ _ => K r sh rf mem nx) 10 [.ref 101, .int (nI k), .int (nI m - 1)] [] sh rf mem nx 0 0 from lp T (Nat.le_refl _) rfl
  intro m
  induction m with
  | zero =>
    intro _ e
    refine h_mM_counts_10 ⟨fun _ => ⟨trivial, ?_⟩, fun q => absurd (by decide) q⟩
    rw [← e] at h; exact h
  | succ m ih =>
    intro hm e
    rw [nI_pred]
    have ei : (111 : Int32) + (2 : Int32) * nI m = nI (111 + 2 * m) := by
      rw [show (2 : Int32) = nI 2 from rfl, show (111 : Int32) = nI 111 from rfl, pk_mul, nI_add]
    refine h_mM_counts_10 ⟨fun q => absurd q (nI_pos (by omega)), fun _ => ?_⟩
    rw [ei]
    refine mn hS (vp_in_nI (by omega) (by decide)) ?_
    rw [cl_nI (by omega)]
    refine ⟨by decide, fun q => ?_, fun q => ⟨trivial, ?_⟩⟩
    · rw [← Int32.sub_eq_add_neg]
      refine ih (by omega) ?_
      rw [← e, lastK, if_neg q]
    · rw [← e, lastK, if_pos q] at h
      exact h
set_option maxHeartbeats 8000000 in
theorem m_worksOut (hS : St sh rf nx) {t n key : Nat} {cd : Row} {a b c : Int32} (ht : t < 14) (hk3 : key < 3) (hn : n ≤ 96) (ef : mem 102 (111 + 2 * t) = nI (1000 * key + n)) (hcd : ∀ j, j < n → mem 102 (139 + 96 * t + j) = cd j) (hw : wfC cd n) (h1 : 1 ≤ tpC cd n) (hf : ∀ j m, j < n → m < 3 → cd j = nI (10000 + m) → mem 116 m = fct a b c (cd j)) (h : ∀ mem' : ab_N, (∀ q, q ≠ 115 → mem' q = mem q) → K (some (.int (woF cd n a b c))) sh rf mem' nx) : ab_Cx l G ol (d + 2) mM_worksOut [.ref 101, .int (nI t)] sh rf mem nx K := by
  have ei : (111 : Int32) + (2 : Int32) * nI t = nI (111 + 2 * t) := by
    rw [show (2 : Int32) = nI 2 from rfl, show (111 : Int32) = nI 111 from rfl, pk_mul, nI_add]
  have vi : ∀ j, j < 1483 → vp_in (nI j) 1483 := fun j hj => vp_in_nI hj (by decide)
  have vs : ∀ j, j < 96 → vp_in (nI j) 96 := fun j hj => vp_in_nI hj (by decide)
  have cl : ∀ j, j < 1483 → Int32.toNatClampNeg (nI j) = j := fun j hj => nI_clamp (by omega)
  refine e_mM_worksOut ?_
  unfold v_mM_worksOut
  rw [ei]
  refine mn hS (vi _ (by omega)) ⟨by decide, ?_⟩
  have er := (tx_key hk3 hn).2
  unfold rem at er
  rw [cl _ (by omega), ef, er]
  suffices loop : ∀ r k, k + r = n → ∀ mem' : ab_N, (∀ q, q ≠ 115 → mem' q = mem q) → (∀ i, i < tpC cd k → mem' 115 i = woS a b c cd k i) → ∀ u, ab_Go l G ol (d + 1) mM_worksOut (ab_mc mM_worksOut) (ab_ms mM_worksOut) (fun r sh rf mem nx _ _ => K r sh rf mem nx) 21 [.ref 101, .int (nI t), .int (nI (tpC cd k)), .int (nI n), .int (nI k), u] [] sh rf mem' nx 0 0 from loop n 0 (by omega) mem (fun _ _ => rfl) (fun i q => by rw [tpC] at q; omega) _
  intro r
  induction r with
  | zero =>
    intro k hk mem' hF hA u
    have : k = n := by omega
    subst this
    refine h_mM_worksOut_21 ⟨fun _ => ⟨m9 hS, ma hS rfl rfl rfl (pk_in 0 96 (by decide)) ⟨trivial, ?_⟩⟩, fun q => absurd (Int32.le_refl _) q⟩
    have := hA 0 (by omega)
    rw [show Int32.toNatClampNeg (0 : Int32) = 0 by decide, this]
    exact h mem' hF
  | succ r ih =>
    intro k hk mem' hF hA u
    have hkn : k < n := by omega
    have htk := tpC_le cd k
    have ej : (139 : Int32) + (96 : Int32) * nI t + nI k = nI (139 + 96 * t + k) := by
      rw [show (96 : Int32) = nI 96 from rfl, show (139 : Int32) = nI 139 from rfl, pk_mul, nI_add, nI_add]
    have ee : mem' 102 (139 + 96 * t + k) = cd k := by rw [hF 102 (by decide)]; exact hcd k hkn
    have okk := wfC_at hw hkn
    have key : ∀ (mem2 : ab_N) (t2 : Int32), (∀ q, q ≠ 115 → mem2 q = mem' q) → t2 = nI (tpC cd (k + 1)) → (∀ i, i < tpC cd (k + 1) → mem2 115 i = wo1 a b c (cd k) (tpC cd k) (woS a b c cd k) i) → ∀ u, ab_Go l G ol (d + 1) mM_worksOut (ab_mc mM_worksOut) (ab_ms mM_worksOut) (fun r sh rf mem nx _ _ => K r sh rf mem nx) 21 [.ref 101, .int (nI t), .int t2, .int (nI n), .int (nI k + 1), u] [] sh rf mem2 nx 0 0 := by
      rintro mem2 _ q1 rfl q3 u
      rw [nI_1]
      exact ih (k + 1) (by omega) mem2 (fun q hq => (q1 q hq).trans (hF q hq)) q3 u
    refine h_mM_worksOut_21 ?_
    unfold v_mM_worksOut_21
    rw [ej]
    refine ⟨fun q => absurd q (nI_ge hkn (by omega)), fun _ => mn hS (vi _ (by omega)) ?_⟩
    rw [cl _ (by omega), ee]
    have push : ∀ x, 0 ≤ cd k → x = fct a b c (cd k) → ∀ u, ab_Go l G ol (d + 1) mM_worksOut (ab_mc mM_worksOut) (ab_ms mM_worksOut) (fun r sh rf mem nx _ _ => K r sh rf mem nx) 21 [.ref 101, .int (nI t), .int (nI (tpC cd k) + 1), .int (nI n), .int (nI k + 1), u] [] sh rf (ab_w mem' 115 (Int32.toNatClampNeg (nI (tpC cd k))) x) nx 0 0 := by
      intro x h0 hx u
      rw [cl _ (by omega)]
      refine key _ _ (fun q hq => ab_w_ne _ _ _ hq) (by rw [nI_1, tpC, tp1, if_pos h0]) (fun i hi => ?_) u
      rw [tpC, tp1, if_pos h0] at hi
      rw [wo1, if_pos h0, hx, ab_w_self]
      by_cases hit : i = tpC cd k
      · subst hit; simp [upd]
      · simp only [upd, if_neg hit]; exact hA i (by omega)
    have i115 : ab_is sh nx 115 10 := is_of hS rfl rfl
    have v115 : ∀ j, j < 96 → vp_in (nI j) (sh 115).2 := fun j hj => in_of hS rfl rfl (vs j hj)
    rcases okk with ⟨m, hm, em⟩ | ⟨m, hm, em⟩ | ⟨em, ht1⟩ | ⟨m, hm, em, ht2⟩
    · obtain ⟨g0, g1, g2⟩ := i32_lit_n hm
      rw [← em] at g0 g1 g2
      refine ⟨fun q => absurd q (Int32.not_lt.mpr g0), fun _ => ⟨m9 hS, rd_of hS rfl rfl ⟨fun q => absurd q (Int32.not_le.mpr g1), fun _ => ⟨i115, v115 _ (by omega), push _ g0 (by rw [fct, if_pos g1]) _⟩⟩⟩⟩
    · have g : ∀ m, m < 3 → (0 : Int32) ≤ nI (10000 + m) ∧ (10000 : Int32) ≤ nI (10000 + m) ∧ nI (10000 + m) - 10000 = nI m := by decide +kernel
      obtain ⟨g0, g1, g2⟩ := g m hm
      have fx := hf k m hkn hm em
      rw [← em] at g0 g1 g2
      refine ⟨fun q => absurd q (Int32.not_lt.mpr g0), fun _ => ⟨m9 hS, rd_of hS rfl rfl ⟨fun _ => ⟨m9 hS, ?_⟩, fun q => absurd g1 q⟩⟩⟩
      rw [g2]
      refine ma hS rfl rfl rfl (vp_in_nI (by omega) (by decide)) ⟨i115, v115 _ (by omega), push _ g0 ?_ _⟩
      rw [cl _ (by omega), hF 116 (by decide), fx]
    · have hneg : ¬ (0 : Int32) ≤ cd k := by rw [em]; decide
      have htp : tpC cd (k + 1) = tpC cd k := by rw [tpC, tp1, if_neg hneg, if_pos em]
      have e1 : nI (tpC cd k) - 1 = nI (tpC cd k - 1) := nI_subk (k := 1) ht1
      refine ⟨fun _ => ⟨fun q => absurd em q, fun _ => ?_⟩, fun q => absurd (Int32.not_lt.mp q) hneg⟩
      rw [e1]
      have a1 := hA (tpC cd k - 1) (by omega)
      have fin : ∀ x, x = (if woS a b c cd k (tpC cd k - 1) = 0 then 1 else 0) → ∀ u, ab_Go l G ol (d + 1) mM_worksOut (ab_mc mM_worksOut) (ab_ms mM_worksOut) (fun r sh rf mem nx _ _ => K r sh rf mem nx) 21 [.ref 101, .int (nI t), .int (nI (tpC cd k)), .int (nI n), .int (nI k + 1), u] [] sh rf (ab_w mem' 115 (tpC cd k - 1) x) nx 0 0 := by
        intro x hx u
        refine key _ _ (fun q hq => ab_w_ne _ _ _ hq) (by rw [htp]) (fun i hi => ?_) u
        rw [htp] at hi
        rw [wo1, if_neg hneg, if_pos em, ← hx, ab_w_self]
        by_cases hit : i = tpC cd k - 1
        · subst hit; simp [upd]
        · simp only [upd, if_neg hit]; exact hA i hi
      refine ⟨m9 hS, rd_of hS rfl rfl ⟨m9 hS, ma hS rfl rfl rfl (vs _ (by omega)) ?_⟩⟩
      rw [cl _ (by omega), a1]
      exact ⟨fun q => ⟨i115, v115 _ (by omega), fin _ (by rw [if_neg q]) _⟩, fun q => ⟨i115, v115 _ (by omega), fin _ (by rw [if_pos q]) _⟩⟩
    · have hneg : ¬ (0 : Int32) ≤ cd k := by
        rw [em]
        have : ∀ m, m < 9 → ¬ (0 : Int32) ≤ sgR m := by decide +kernel
        exact this m hm
      have hn10 : ¬ cd k = -10 := by
        rw [em]
        have : ∀ m, m < 9 → ¬ sgR m = -10 := by decide +kernel
        exact this m hm
      have htp : tpC cd (k + 1) = tpC cd k - 1 := by rw [tpC, tp1, if_neg hneg, if_neg hn10]
      have e1 : nI (tpC cd k) + (-1 : Int32) = nI (tpC cd k - 1) := nI_m1 (by omega)
      have e2 : nI (tpC cd k - 1) - 1 = nI (tpC cd k - 2) := by
        rw [show (1 : Int32) = nI 1 from rfl, nI_subk (by omega)]; congr 1
      have a1 := hA (tpC cd k - 1) (by omega)
      have a2 := hA (tpC cd k - 2) (by omega)
      refine ⟨fun _ => ⟨fun _ => ?_, fun q => absurd q hn10⟩, fun q => absurd (Int32.not_lt.mp q) hneg⟩
      rw [e1, e2]
      refine ⟨m9 hS, rd_of hS rfl rfl ⟨m9 hS, ma hS rfl rfl rfl (vs _ (by omega)) ⟨m9 hS, ma hS rfl rfl rfl (vs _ (by omega)) ⟨by decide, ?_⟩⟩⟩⟩
      rw [cl (tpC cd k - 1) (by omega), cl (tpC cd k - 2) (by omega), a1, a2]
      refine m_two ⟨_, rfl, i115, v115 _ (by omega), ?_⟩
      refine key _ _ (fun q hq => ab_w_ne _ _ _ hq) (by rw [htp]) (fun i hi => ?_) _
      rw [htp] at hi
      rw [wo1, if_neg hneg, if_neg hn10, ab_w_self]
      by_cases hit : i = tpC cd k - 2
      · subst hit; simp [upd]
      · simp only [upd, if_neg hit]; exact hA i (by omega)
/-- what a text that counts gives -/
theorem m_works (hS : St sh rf nx) {T k t : Nat} {a b c : Int32} (hx : TxT (mem 102) T) (hl : lastK (mem 102) k T = some t) (hk : k < 3) (h0 : mem 116 0 = a) (h1 : mem 116 1 = b) (h2 : k = 0 → mem 116 2 = c) (h : ∀ mem' : ab_N, (∀ q, q ≠ 115 → mem' q = mem q) → K (some (.int (lwV (oF (mem 102) k T) a b c 0))) sh rf mem' nx) : ab_Cx l G ol (d + 2) mM_worksOut [.ref 101, .int (nI t)] sh rf mem nx K := by
  obtain ⟨ht, hq⟩ := lastK_lt hl
  obtain ⟨key, n, g1, g2, g3, g4, g5, g6⟩ := hx.2.2 t ht
  obtain ⟨e1, e2⟩ := tx_of g1 g2 g3
  have hx2 := hx.2.1
  have ek : key = k := by
    rw [hq] at e2
    exact ((nI_eq (by omega) (by omega)).mp e2).symm
  subst ek
  refine m_worksOut hS (cd := cdF (mem 102) t) (a := a) (b := b) (c := c) (by omega) g1 g2 g3 (fun j _ => rfl) g4 g5 (fun j m hj hm e => ?_) fun mem' hF => ?_
  · have : ∀ m, m < 3 → fct a b c (nI (10000 + m)) = if m = 0 then a else if m = 1 then b else c := by
      intro m hm
      rcases (show m = 0 ∨ m = 1 ∨ m = 2 by omega) with rfl | rfl | rfl
      · rfl
      · rfl
      · rfl
    rw [e, this m hm]
    rcases (show m = 0 ∨ m = 1 ∨ m = 2 by omega) with rfl | rfl | rfl
    · exact h0
    · exact h1
    · by_cases k0 : key = 0
      · exact h2 k0
      · exact absurd e (g6 k0 j hj)
  · have := h mem' hF
    unfold oF at this
    rw [hl] at this
    simp only [lwV, e1] at this
    exact this
theorem oF_none {f : Row} {k T : Nat} (h : lastK f k T = none) : oF f k T = none := by unfold oF; rw [h]
theorem oF_some {f : Row} {k T t : Nat} (h : lastK f k T = some t) : oF f k T = some (cdF f t, lnF f t) := by unfold oF; rw [h]
theorem lwV_some {q : Row × Nat} {a b c e e' : Int32} : lwV (some q) a b c e = lwV (some q) a b c e' := rfl
theorem m_costsBy (hS : St sh rf nx) {T t n x : Nat} (hx : TxT (mem 102) T) (ht : t < 8) (hn : n ≤ 99) (en : mem 102 (tI t 1) = nI n) (hx20 : x < 20) (h : ∀ mem' : ab_N, (∀ q, q ≠ 115 → q ≠ 116 → mem' q = mem q) → K (some (.int (ctO (oF (mem 102) 0 T) (mem 102 (tI t 1)) (nI x) (mem 102 2)))) sh rf mem' nx) : ab_Cx l G ol (d + 3) mM_costsBy [.ref 101, .int (nI t), .int (nI x)] sh rf mem nx K := by
  have v2 : vp_in (2 : Int32) 1483 := pk_in 2 1483 (by decide)
  have i116 : ab_is sh nx 116 10 := is_of hS rfl rfl
  have v116 : ∀ {i : Int32}, vp_in i 4 → vp_in i (sh 116).2 := fun q => in_of hS rfl rfl q
  have c0 : Int32.toNatClampNeg (0 : Int32) = 0 := by decide
  have c1 : Int32.toNatClampNeg (1 : Int32) = 1 := by decide
  have c2 : Int32.toNatClampNeg (2 : Int32) = 2 := by decide
  refine e_mM_costsBy ?_
  unfold v_mM_costsBy
  rw [c0, c1, c2]
  refine ⟨m9 hS, m_counts hS (k := 0) hx.2.1 hx.1 ⟨_, rfl, m9 hS, rd_of hS rfl rfl ⟨m9 hS, m_of hS (k := 1) ht (by decide) ⟨_, rfl, i116, v116 (pk_in 0 4 (by decide)), m9 hS, ma hS rfl rfl rfl (pk_in 1 4 (by decide)) ⟨m9 hS, rd_of hS rfl rfl (mn hS v2 ⟨i116, v116 (pk_in 2 4 (by decide)), ?_⟩)⟩⟩⟩⟩⟩
  generalize hm : ab_w (ab_w (ab_w mem 116 0 (mem 102 (tI t 1))) 116 1 (nI x)) 116 2 ((ab_w (ab_w mem 116 0 (mem 102 (tI t 1))) 116 1 (nI x)) 102 2) = mem9
  have o : ∀ q, q ≠ 116 → mem9 q = mem q := fun q hq => by rw [← hm, ab_w_ne _ _ _ hq, ab_w_ne _ _ _ hq, ab_w_ne _ _ _ hq]
  have f0 : mem9 116 0 = mem 102 (tI t 1) := by rw [← hm, w_ne _ _ (Or.inr (by decide)), w_ne _ _ (Or.inr (by decide)), w_eq]
  have f1 : mem9 116 1 = nI x := by rw [← hm, w_ne _ _ (Or.inr (by decide)), w_eq]
  have f2 : mem9 116 2 = mem 102 2 := by rw [← hm, w_eq, ab_w_ne _ _ _ (by decide), ab_w_ne _ _ _ (by decide)]
  have o2 := o 102 (by decide)
  cases hl : lastK (mem 102) 0 T with
  | none =>
    refine ⟨fun q => absurd q (by decide), fun _ => ⟨m9 hS, m_of hS (k := 1) ht (by decide) ⟨_, rfl, trivial, ?_⟩⟩⟩
    have := h mem9 (fun q _ hq => o q hq)
    rw [oF_none hl] at this
    have e : ctO none (mem 102 (tI t 1)) (nI x) (mem 102 2) = mem 102 (tI t 1) + nI x := by
      show clp (mem 102 (tI t 1) + nI x) = _
      rw [en, nI_add]
      unfold clp
      rw [if_pos (show nI (n + x) < 999 from nI_lt (b := 999) (by omega) (by decide))]
      by_cases z : n + x = 0
      · rw [z]; rfl
      · rw [if_pos (show (0 : Int32) < nI (n + x) from nI_lt (a := 0) (by omega) (by omega))]
    rw [e] at this
    rw [o2]
    exact this
  | some u =>
    have hu := (lastK_lt hl).1
    have hx2 := hx.2.1
    refine ⟨fun _ => ⟨m9 hS, ?_⟩, fun q => absurd (nI_pos' (by omega)) q⟩
    refine m_works (d := d) (mem := mem9) (T := T) (k := 0) hS (by rw [o2]; exact hx) (by rw [o2]; exact hl) (by decide) f0 f1 (fun _ => f2) fun mem' hF => ⟨_, rfl, by decide, m_within ⟨_, rfl, trivial, ?_⟩⟩
    have := h mem' (fun q h5 h6 => (hF q h5).trans (o q h6))
    unfold ctO clp at this
    rw [held_wi (by decide)] at this
    rw [o2, oF_some hl] at *
    exact this
end MB
