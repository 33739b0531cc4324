/-! THE REFERENCE: leaves. Its object is cell 101, what it keeps as now is cell 102: the row f of the pure functions. -/
theorem ti_e (t k : Nat) : (7 : Int32) + (13 : Int32) * nI t + nI k = nI (tI t k) := by
  rw [show (13 : Int32) = nI 13 from rfl, show (7 : Int32) = nI 7 from rfl, pk_mul, nI_add, nI_add]; rfl
theorem ti_lt {t k : Nat} (ht : t < 8) (hk : k < 13) : tI t k < 111 := by unfold tI; omega
theorem row_row (mem : ab_N) (a : Nat) (f g : Row) : ab_row (ab_row mem a f) a g = ab_row mem a g := by
  funext b; unfold ab_row; by_cases h : b = a <;> simp [h]
theorem row_at (mem : ab_N) (a : Nat) (f : Row) : ab_row mem a f a = f := if_pos rfl
theorem row_ne (mem : ab_N) {a b : Nat} (f : Row) (h : b ≠ a) : ab_row mem a f b = mem b := if_neg h
theorem row_id (mem : ab_N) (a : Nat) : ab_row mem a (mem a) = mem := by
  funext b; unfold ab_row; by_cases h : b = a
  · rw [if_pos h, h]
  · rw [if_neg h]
theorem w_row (mem : ab_N) (a k : Nat) (v : Int32) (f : Row) : ab_w (ab_row mem a f) a k v = ab_row mem a (upd f k v) := by
  funext b; unfold ab_w ab_row; by_cases h : b = a <;> simp [h]
def wiI (v a b : Int32) : Int32 := if a ≤ v then (if v ≤ b then v else b) else a
theorem held_wi {v a b : Int32} (hab : a ≤ b) : (if a < (if v < b then v else b) then (if v < b then v else b) else a) = wiI v a b := by
  unfold wiI
  simp only [Int32.lt_iff_toInt_lt, Int32.le_iff_toInt_le] at *
  repeat' split
  all_goals first | rfl | (apply Int32.toInt_inj.mp; omega)
section MA
variable {l : Launch} {G : ab_G} {ol : ab_Ol} {d : Nat} {sh : ab_S} {rf : ab_R} {mem : ab_N} {nx : Nat} {K : ab_K}
theorem m9 (hS : St sh rf nx) : ab_is sh nx 101 9 := is_of hS rfl rfl
/-- an array of the reference, at an index -/
theorem ma (hS : St sh rf nx) {k b n c : Nat} {i : Int32} {C : Nat → Prop} (hb : rfS 101 k = some b) (h6 : Nat.blt b 126 = true) (hc : shS b = (c, n)) (hi : vp_in i n) (hC : C b) : ab_rd (rf 101 k) fun b => ab_is sh nx b c ∧ vp_in i (sh b).2 ∧ C b := rd_of hS rfl hb ⟨is_of hS h6 (by rw [hc]), in_of hS h6 (by rw [hc]) hi, hC⟩
theorem mn (hS : St sh rf nx) {i : Int32} {C : Nat → Prop} (hi : vp_in i 1483) (hC : C 102) : ab_is sh nx 101 9 ∧ ab_rd (rf 101 0) fun b => ab_is sh nx b 10 ∧ vp_in i (sh b).2 ∧ C b := ⟨m9 hS, ma hS rfl rfl rfl hi hC⟩
theorem m_in {a b c : Int32} (h : K (some (.int (if b ≤ a ∧ a ≤ c then 1 else 0))) sh rf mem nx) : ab_Cx l G ol (d + 1) mM_in [.int a, .int b, .int c] sh rf mem nx K := by
  refine e_mM_in ⟨fun h1 => ⟨Or.inl rfl, ?_⟩, fun h1 => ⟨fun h2 => ⟨Or.inl rfl, ?_⟩, fun h2 => ⟨Or.inr rfl, ?_⟩⟩⟩
  · rw [if_neg (fun q => absurd h1 (Int32.not_lt.mpr q.1))] at h; exact h
  · rw [if_neg (fun q => absurd h2 (Int32.not_lt.mpr q.2))] at h; exact h
  · rw [if_pos ⟨Int32.not_lt.mp h1, Int32.not_lt.mp h2⟩] at h; exact h
theorem m_within {v a b : Int32} (h : K (some (.int (wiI v a b))) sh rf mem nx) : ab_Cx l G ol (d + 1) mM_within [.int v, .int a, .int b] sh rf mem nx K := by
  unfold wiI at h
  refine e_mM_within ⟨fun h1 => ⟨fun h2 => ⟨trivial, ?_⟩, fun h2 => ⟨trivial, ?_⟩⟩, fun h1 => ⟨trivial, ?_⟩⟩
  · rw [if_pos h1, if_pos h2] at h; exact h
  · rw [if_pos h1, if_neg h2] at h; exact h
  · rw [if_neg h1] at h; exact h
theorem m_told0 {v : Int32} (h : K (some (.int (if 0 ≤ v then v else -1000000005))) sh rf mem nx) : ab_Cx l G ol (d + 1) mM_told0 [.int v] sh rf mem nx K := by
  refine e_mM_told0 ⟨fun h1 => ⟨trivial, ?_⟩, fun h1 => ⟨trivial, ?_⟩⟩
  · rw [if_pos h1] at h; exact h
  · rw [if_neg h1] at h; exact h
theorem m_isUnder {a b : Int32} (h : K (some (.int (if und a b then 1 else 0))) sh rf mem nx) : ab_Cx l G ol (d + 1) mM_isUnder [.int a, .int b] sh rf mem nx K := by
  have y : und a b → K (some (.int 1)) sh rf mem nx := fun q => by rw [if_pos q] at h; exact h
  have n : ¬ und a b → K (some (.int 0)) sh rf mem nx := fun q => by rw [if_neg q] at h; exact h
  refine e_mM_isUnder ⟨fun h1 => ⟨Or.inr rfl, y (Or.inl h1)⟩, fun h1 => ⟨fun h2 => ⟨Or.inr rfl, y (Or.inr (Or.inl h2))⟩, fun h2 => ⟨fun h3 => ⟨fun h4 => ⟨Or.inl rfl, n ?_⟩, fun h4 => ⟨fun h5 => ⟨Or.inl rfl, n ?_⟩, fun h5 => ⟨Or.inr rfl, y (Or.inr (Or.inr (Or.inr ⟨h4, h5⟩)))⟩⟩⟩, fun h3 => ⟨fun h4 => ⟨Or.inr rfl, y (Or.inr (Or.inr (Or.inl ⟨h3, h4⟩)))⟩, fun h4 => ⟨fun h5 => ⟨Or.inl rfl, n ?_⟩, fun h5 => ⟨fun h6 => ⟨Or.inl rfl, n ?_⟩, fun h6 => ⟨Or.inr rfl, y (Or.inr (Or.inr (Or.inr ⟨h5, h6⟩)))⟩⟩⟩⟩⟩⟩⟩
  all_goals (intro q; rcases q with q | q | q | q <;> first | exact h1 q | exact h2 q | exact h3 q.1 | exact h4 q.1 | exact h5 q.1 | exact h4 q.2 | exact h5 q.2 | exact h6 q.2 | exact absurd (h3.symm.trans q.1) (by decide) | exact absurd (h4.symm.trans q.1) (by decide))
theorem m_isSheet {v : Int32} (h : K (some (.int (if 0 ≤ v ∧ v ≤ 3 then 1 else 0))) sh rf mem nx) : ab_Cx l G ol (d + 2) mM_isSheet [.int v] sh rf mem nx K := by
  refine e_mM_isSheet ⟨by decide, m_in ⟨_, rfl, ?_, h⟩⟩
  split <;> simp
theorem m_isSlot {v : Int32} (h : K (some (.int (if 0 ≤ v ∧ v ≤ 4 then 1 else 0))) sh rf mem nx) : ab_Cx l G ol (d + 2) mM_isSlot [.int v] sh rf mem nx K := by
  refine e_mM_isSlot ⟨by decide, m_in ⟨_, rfl, ?_, h⟩⟩
  split <;> simp
theorem m_isOne (hS : St sh rf nx) {N : Nat} (h1 : mem 102 1 = nI N) {v : Int32} (h : K (some (.int (if 0 ≤ v ∧ v ≤ nI N - 1 then 1 else 0))) sh rf mem nx) : ab_Cx l G ol (d + 2) mM_isOne [.ref 101, .int v] sh rf mem nx K := by
  refine e_mM_isOne (mn hS (pk_in 1 1483 (by decide)) ⟨by decide, m_in ⟨_, rfl, ?_, ?_⟩⟩)
  · split <;> simp
  · rw [show mem 102 (Int32.toNatClampNeg 1) = nI N from h1]; exact h
theorem m_of (hS : St sh rf nx) {t k : Nat} (ht : t < 8) (hk : k < 13) (h : K (some (.int (mem 102 (tI t k)))) sh rf mem nx) : ab_Cx l G ol (d + 1) mM_of [.ref 101, .int (nI t), .int (nI k)] sh rf mem nx K := by
  have hl := ti_lt ht hk
  refine e_mM_of (mn hS (by rw [ti_e]; exact vp_in_nI (by omega) (by decide)) ⟨trivial, ?_⟩)
  rw [ti_e, cl_nI (by omega)]; exact h
theorem m_put (hS : St sh rf nx) {t k : Nat} (ht : t < 8) (hk : k < 13) {v : Int32} (h : K none sh rf (ab_row mem 102 (upd (mem 102) (tI t k) v)) nx) : ab_Cx l G ol (d + 1) mM_put [.ref 101, .int (nI t), .int (nI k), .int v] sh rf mem nx K := by
  have hl := ti_lt ht hk
  refine e_mM_put (mn hS (by rw [ti_e]; exact vp_in_nI (by omega) (by decide)) ?_)
  rw [ti_e, cl_nI (by omega)]; exact h
theorem m_becomes (hS : St sh rf nx) {j : Nat} {i v : Int32} (hi : i = nI j) (hj : j < 1483) (h : K (some (.int (mem 102 j))) sh rf (ab_row mem 102 (upd (mem 102) j v)) nx) : ab_Cx l G ol (d + 1) mM_becomes [.ref 101, .int i, .int v] sh rf mem nx K := by
  subst hi
  have vi : vp_in (nI j) 1483 := vp_in_nI hj (by decide)
  refine e_mM_becomes (mn hS vi (mn hS vi ⟨trivial, ?_⟩))
  rw [cl_nI (by omega)]; exact h
theorem m_draw (hS : St sh rf nx) (h : K (some (.int (dval (drw (mem 102 0))))) sh rf (ab_row mem 102 (rowD (mem 102))) nx) : ab_Cx l G ol (d + 1) mM_draw [.ref 101] sh rf mem nx K := by
  have v0 : vp_in (0 : Int32) 1483 := pk_in 0 1483 (by decide)
  refine e_mM_draw ⟨m9 hS, rd_of hS rfl rfl (mn hS v0 ⟨is_of hS rfl rfl, in_of hS rfl rfl v0, mn hS v0 ⟨trivial, ?_⟩⟩)⟩
  show K (some (.int (dval (ab_w mem 102 0 (drw (mem 102 0)) 102 0)))) sh rf (ab_w mem 102 0 (drw (mem 102 0))) nx
  rw [w_eq]
  exact h
theorem m_two {v a b : Int32} (h : K (some (.int (two v a b))) sh rf mem nx) : ab_Cx l G ol (d + 1) mM_two [.int v, .int a, .int b] sh rf mem nx K := by
  refine e_mM_two ?_
  unfold v_mM_two
  unfold two at h
  have k1 : ∀ x y : Int32, ¬ x ≤ y ↔ y < x := fun x y => Int32.not_le
  by_cases h1 : v = -1
  · subst h1
    simp only [show ¬ (-1 : Int32) = -8 by decide, show ¬ (-1 : Int32) = -7 by decide, show ¬ (-1 : Int32) = -6 by decide, show ¬ (-1 : Int32) = -5 by decide, show ¬ (-1 : Int32) = -4 by decide, show ¬ (-1 : Int32) = -3 by decide, show ¬ (-1 : Int32) = -2 by decide, if_true] at h ⊢
    refine ⟨False.elim, fun _ => ⟨False.elim, fun _ => ⟨False.elim, fun _ => ⟨False.elim, fun _ => ⟨False.elim, fun _ => ⟨False.elim, fun _ => ⟨False.elim, fun _ => ⟨fun _ => ⟨fun q => ⟨trivial, ?_⟩, fun q => ⟨fun q2 => ⟨trivial, ?_⟩, fun q2 => ⟨trivial, ?_⟩⟩⟩, fun q => absurd trivial q⟩⟩⟩⟩⟩⟩⟩⟩
    · rw [if_pos (Or.inl q)] at h; exact h
    · rw [if_neg (fun z => z.elim (fun z => z q) (fun z => z q2))] at h; exact h
    · rw [if_pos (Or.inr q2)] at h; exact h
  rw [if_neg h1] at h
  by_cases h2 : v = -2
  · subst h2
    simp only [show ¬ (-2 : Int32) = -8 by decide, show ¬ (-2 : Int32) = -7 by decide, show ¬ (-2 : Int32) = -6 by decide, show ¬ (-2 : Int32) = -5 by decide, show ¬ (-2 : Int32) = -4 by decide, show ¬ (-2 : Int32) = -3 by decide, if_true] at h ⊢
    refine ⟨False.elim, fun _ => ⟨False.elim, fun _ => ⟨False.elim, fun _ => ⟨False.elim, fun _ => ⟨False.elim, fun _ => ⟨False.elim, fun _ => ⟨fun _ => ⟨fun q => ⟨trivial, ?_⟩, fun q => ⟨fun q2 => ⟨trivial, ?_⟩, fun q2 => ⟨trivial, ?_⟩⟩⟩, fun q => absurd trivial q⟩⟩⟩⟩⟩⟩⟩
    · rw [if_neg (fun z => z.1 q)] at h; exact h
    · rw [if_neg (fun z => z.2 q2)] at h; exact h
    · rw [if_pos ⟨q, q2⟩] at h; exact h
  rw [if_neg h2] at h
  refine ⟨fun e => ⟨trivial, ?_⟩, fun e8 => ⟨fun e => ⟨trivial, ?_⟩, fun e7 => ⟨fun e => ⟨trivial, ?_⟩, fun e6 => ⟨fun e => ⟨fun q => ⟨trivial, ?_⟩, fun q => ⟨trivial, ?_⟩⟩, fun e5 => ⟨fun e => ⟨fun q => ⟨trivial, ?_⟩, fun q => ⟨trivial, ?_⟩⟩, fun e4 => ⟨fun e => ⟨fun q => ⟨trivial, ?_⟩, fun q => ⟨trivial, ?_⟩⟩, fun e3 => ⟨fun e => absurd e h2, fun _ => ⟨fun e => absurd e h1, fun _ => ⟨fun q => ⟨q, trivial, ?_⟩, fun q => ⟨trivial, ?_⟩⟩⟩⟩⟩⟩⟩⟩⟩⟩
  · subst e; exact h
  · subst e; exact h
  · subst e; exact h
  · subst e; rw [if_neg (by decide), if_neg (by decide), if_pos rfl, if_neg (Int32.not_lt.mpr q)] at h; exact h
  · subst e; rw [if_neg (by decide), if_neg (by decide), if_pos rfl, if_pos (Int32.not_le.mp q)] at h; exact h
  · subst e; rw [if_neg (by decide), if_pos rfl, if_neg q] at h; exact h
  · subst e; rw [if_neg (by decide), if_pos rfl, if_pos q] at h; exact h
  · subst e; rw [if_pos rfl, if_neg (Int32.not_lt.mpr q)] at h; exact h
  · subst e; rw [if_pos rfl, if_pos (Int32.not_le.mp q)] at h; exact h
  · rw [if_neg e3, if_neg e4, if_neg e5, if_neg e6, if_neg e7, if_neg e8, if_neg q] at h; exact h
  · rw [if_neg e3, if_neg e4, if_neg e5, if_neg e6, if_neg e7, if_neg e8, if_pos q] at h; exact h
theorem m_upTo {a b : Int32} (hb : ¬ b = 0) (h : K (some (.int (if rem a b = 0 then a else a - rem a b + b))) sh rf mem nx) : ab_Cx l G ol (d + 1) mM_upTo [.int a, .int b] sh rf mem nx K := by
  unfold rem at h
  refine e_mM_upTo ⟨hb, fun q => ⟨trivial, ?_⟩, fun q => ⟨trivial, ?_⟩⟩
  · rw [if_neg q] at h; exact h
  · rw [if_pos q] at h; exact h
theorem m_padded (hS : St sh rf nx) {c v : Int32} (h : K (some (.int (pdd c v (mem 102 3)))) sh rf mem nx) : ab_Cx l G ol (d + 1) mM_padded [.ref 101, .int c, .int v] sh rf mem nx K := by
  unfold pdd at h
  have v3 : vp_in (3 : Int32) 1483 := pk_in 3 1483 (by decide)
  have e3 : Int32.toNatClampNeg (3 : Int32) = 3 := by decide
  refine e_mM_padded (mn hS v3 ?_)
  rw [e3]
  refine ⟨fun q => ⟨trivial, ?_⟩, fun q => mn hS v3 ?_⟩
  · rw [if_neg (fun z => absurd q (Int32.not_lt.mpr z.1))] at h; exact h
  · refine ⟨fun q2 => ⟨trivial, ?_⟩, fun q2 => mn hS v3 ⟨trivial, ?_⟩⟩
    · rw [if_neg (fun z => absurd z.2 (Int32.not_lt.mpr q2))] at h; exact h
    · rw [if_pos ⟨Int32.not_lt.mp q, Int32.not_le.mp q2⟩] at h; exact h
theorem up_5 {c : Nat} (hc : c < 2 ^ 30) : (if rem (nI c) 5 = 0 then nI c else nI c - rem (nI c) 5 + 5) = (nI c + 4) / 5 * 5 := by
  have e : rem (nI c) 5 = nI (c % 5) := rem_nI (n := 5) (by omega) (by decide) (by decide)
  rw [e, show (4 : Int32) = nI 4 from rfl, show (5 : Int32) = nI 5 from rfl, nI_add, pk_div (by omega) (by decide) (by decide), pk_mul]
  by_cases h : c % 5 = 0
  · rw [if_pos (by rw [h]; rfl)]; congr 1; omega
  · rw [if_neg (nI_ne0 (by omega) (by omega)), pk_sub (by omega), nI_add]; congr 1; omega
theorem up_10 {c : Nat} (hc : c < 2 ^ 30) : (if rem (nI c) 10 = 0 then nI c else nI c - rem (nI c) 10 + 10) = (nI c + 9) / 10 * 10 := by
  have e : rem (nI c) 10 = nI (c % 10) := rem_nI (n := 10) (by omega) (by decide) (by decide)
  rw [e, show (9 : Int32) = nI 9 from rfl, show (10 : Int32) = nI 10 from rfl, nI_add, pk_div (by omega) (by decide) (by decide), pk_mul]
  by_cases h : c % 10 = 0
  · rw [if_pos (by rw [h]; rfl)]; congr 1; omega
  · rw [if_neg (nI_ne0 (by omega) (by omega)), pk_sub (by omega), nI_add]; congr 1; omega
theorem m_asksBy (hS : St sh rf nx) {t c s : Nat} (ht : t < 8) (hc : c < 2 ^ 30) (hs : s < 2 ^ 30) (es : mem 102 (tI t 6) = nI s) (h : K (some (.int (ask (mem 102 (tI t 0)) (mem 102 (tI t 2)) (mem 102 (tI t 6)) (mem 102 3) (nI c)))) sh rf mem nx) : ab_Cx l G ol (d + 2) mM_asksBy [.ref 101, .int (nI t), .int (nI c)] sh rf mem nx K := by
  unfold ask at h
  have v3 : vp_in (3 : Int32) 1483 := pk_in 3 1483 (by decide)
  have e3 : Int32.toNatClampNeg (3 : Int32) = 3 := by decide
  refine e_mM_asksBy ⟨m9 hS, m_of hS (k := 2) ht (by decide) ⟨_, rfl, m9 hS, m_of hS (k := 0) ht (by decide) ⟨_, rfl, ?_⟩⟩⟩
  refine ⟨fun h1 => ⟨by decide, m_upTo (by decide) ⟨_, rfl, trivial, ?_⟩⟩, fun h1 => ⟨fun h2 => ⟨m9 hS, m_padded hS ⟨_, rfl, trivial, ?_⟩⟩, fun h2 => ⟨fun h3 => ⟨by decide, m_upTo (by decide) ⟨_, rfl, trivial, ?_⟩⟩, fun h3 => ⟨fun h4 => ⟨m9 hS, m_of hS (k := 6) ht (by decide) ⟨_, rfl, by decide, m_within ⟨_, rfl, m9 hS, m_padded hS ⟨_, rfl, trivial, ?_⟩⟩⟩⟩, fun h4 => ⟨fun h5 => ?_, fun h5 => ⟨trivial, ?_⟩⟩⟩⟩⟩⟩
  · rw [if_pos h1] at h; rw [up_5 hc]; exact h
  · rw [if_neg h1, if_pos h2] at h; exact h
  · rw [if_neg h1, if_neg h2, if_pos h3] at h; rw [up_10 hc]; exact h
  · rw [if_neg h1, if_neg h2, if_neg h3, if_pos h4] at h
    have e : wiI (mem 102 (tI t 6)) 0 20 = (if 20 < mem 102 (tI t 6) then 20 else mem 102 (tI t 6)) := by
      unfold wiI
      rw [if_pos (by rw [es]; exact nI_pos' (by omega))]
      by_cases q : mem 102 (tI t 6) ≤ 20
      · rw [if_pos q, if_neg (Int32.not_lt.mpr q)]
      · rw [if_neg q, if_pos (Int32.not_le.mp q)]
    rw [e, Int32.add_assoc]; exact h
  · rw [if_neg h1, if_neg h2, if_neg h3, if_neg h4, if_pos h5] at h
    refine mn hS v3 ?_
    rw [e3]
    refine ⟨fun q => ⟨trivial, ?_⟩, fun q => mn hS v3 ⟨trivial, ?_⟩⟩
    · rw [if_neg (Int32.not_lt.mpr q)] at h; exact h
    · rw [if_pos (Int32.not_le.mp q)] at h; exact h
  · rw [if_neg h1, if_neg h2, if_neg h3, if_neg h4, if_neg h5] at h; exact h
theorem m_worthOf (hS : St sh rf nx) {t : Nat} (ht : t < 8) (h : K (some (.int (wth (mem 102 (tI t 0)) (mem 102 (tI t 1)) (mem 102 (tI t 2))))) sh rf mem nx) : ab_Cx l G ol (d + 2) mM_worthOf [.ref 101, .int (nI t)] sh rf mem nx K := by
  unfold wth at h
  refine e_mM_worthOf ⟨m9 hS, m_of hS (k := 1) ht (by decide) ⟨_, rfl, m9 hS, m_of hS (k := 0) ht (by decide) ⟨_, rfl, ?_⟩⟩⟩
  refine ⟨fun h1 => ⟨trivial, ?_⟩, fun h1 => ⟨fun h2 => ⟨m9 hS, m_of hS (k := 2) ht (by decide) ⟨_, rfl, trivial, ?_⟩⟩, fun h2 => ⟨fun h3 => ⟨trivial, ?_⟩, fun h3 => ⟨fun h4 => ⟨m9 hS, m_of hS (k := 2) ht (by decide) ⟨_, rfl, trivial, ?_⟩⟩, fun h4 => ⟨fun h5 => ⟨trivial, ?_⟩, fun h5 => ⟨trivial, ?_⟩⟩⟩⟩⟩⟩
  · rw [if_pos h1] at h; exact h
  · rw [if_neg h1, if_pos h2] at h; exact h
  · rw [if_neg h1, if_neg h2, if_pos h3] at h; exact h
  · rw [if_neg h1, if_neg h2, if_neg h3, if_pos h4] at h
    have e : ∀ b : Int32, 99 - b - 9 = 90 - b := by
      intro b
      rw [Int32.sub_eq_add_neg, Int32.sub_eq_add_neg, Int32.add_assoc, Int32.add_comm (-b), ← Int32.add_assoc, ← Int32.sub_eq_add_neg]
      rfl
    rw [← e]; exact h
  · rw [if_neg h1, if_neg h2, if_neg h3, if_neg h4, if_pos h5] at h; exact h
  · rw [if_neg h1, if_neg h2, if_neg h3, if_neg h4, if_neg h5] at h; exact h
set_option maxHeartbeats 4000000 in
theorem m_signOf (hS : St sh rf nx) {t j : Nat} (ht : t < 8) (hj : j < 6) (h : K (some (.int (sg1 (fun j => mem 102 (tI t (7 + j))) (mem 102 3) j))) sh rf mem nx) : ab_Cx l G ol (d + 2) mM_signOf [.ref 101, .int (nI t), .int (nI j)] sh rf mem nx K := by
  have v3 : vp_in (3 : Int32) 1483 := pk_in 3 1483 (by decide)
  have e3 : Int32.toNatClampNeg (3 : Int32) = 3 := by decide
  have e7 : (7 : Int32) + nI j = nI (7 + j) := nI_add 7 j
  have e8 : nI (7 + j) + 1 = nI (7 + j + 1) := nI_1 _
  have e5 : (5 : Int32) ≤ nI j ↔ ¬ j < 5 := by
    have : ∀ j, j < 6 → ((5 : Int32) ≤ nI j ↔ ¬ j < 5) := by decide +kernel
    exact this j hj
  have key : ∀ x, x = (if 0 < mem 102 (tI t (7 + j)) then ((if mem 102 (tI t (7 + j)) - mem 102 (tI t (7 + j)) / 10 * 10 = 0 then 2 else if mem 102 (tI t (7 + j)) - mem 102 (tI t (7 + j)) / 10 * 10 = 5 then 1 else 0) + (if mem 102 (tI t (7 + j)) = mem 102 3 - 1 then 4 else 0)) + (if j < 5 ∧ mem 102 (tI t (7 + j + 1)) = mem 102 (tI t (7 + j)) then 3 else 0) else 0) → K (some (.int x)) sh rf mem nx := by
    intro x q
    rw [q]
    unfold sg1 rem at h
    by_cases p : 0 < mem 102 (tI t (7 + j))
    · rw [if_neg (Int32.not_le.mpr p)] at h
      rw [if_pos p]
      simp only [eq_comm (a := mem 102 (tI t (7 + j + 1)))]
      exact h
    · rw [if_pos (Int32.not_lt.mp p)] at h
      rw [if_neg p]; exact h
  refine e_mM_signOf ?_
  unfold v_mM_signOf
  rw [e7, e8]
  simp only [e5]
  refine ⟨m9 hS, m_of hS ht (by omega) ⟨_, rfl, ?_⟩⟩
  have nx1 : ∀ {K : ab_K}, j < 5 → K (some (.int (mem 102 (tI t (7 + j + 1))))) sh rf mem nx → ab_Cx l G ol (d + 1) mM_of [.ref 101, .int (nI t), .int (nI (7 + j + 1))] sh rf mem nx K := fun q hk => m_of hS ht (by omega) hk
  clear h
  repeat' first
    | exact trivial
    | exact (by decide : ¬ (10 : Int32) = 0)
    | refine key _ ?_
    | exact m9 hS
    | refine ma hS rfl rfl rfl v3 ?_
    | refine nx1 (by omega) ?_
    | refine And.intro ?_ ?_
    | refine ⟨_, rfl, ?_⟩
    | intro _
  all_goals clear key nx1 e7 e8 e5
  all_goals simp only [e3] at *
  all_goals (generalize mem 102 (tI t (7 + j + 1)) = z at *; generalize mem 102 (tI t (7 + j)) = y at *; generalize mem 102 3 = ln at *; generalize y - y / 10 * 10 = r at *; first | (rw [if_neg (by assumption)]; done) | (simp_all; done) | (simp_all; intro w; omega))
theorem m_signsOf (hS : St sh rf nx) {t : Nat} (ht : t < 8) (h : K (some (.int (sgf (mem 102) t))) sh rf mem nx) : ab_Cx l G ol (d + 3) mM_signsOf [.ref 101, .int (nI t)] sh rf mem nx K := by
  suffices loop : ∀ n j, j + n = 6 → ab_Go l G ol (d + 2) mM_signsOf (ab_mc mM_signsOf) (ab_ms mM_signsOf) (fun r sh rf mem nx _ _ => K r sh rf mem nx) 4 [.ref 101, .int (nI t), .int (sg (fun j => mem 102 (tI t (7 + j))) (mem 102 3) j), .int (nI j)] [] sh rf mem nx 0 0 from e_mM_signsOf (loop 6 0 rfl)
  intro n
  induction n with
  | zero =>
    intro j hj
    have : j = 6 := by omega
    subst this
    exact h_mM_signsOf_4 ⟨fun _ => ⟨trivial, h⟩, fun q => absurd (by decide) q⟩
  | succ n ih =>
    intro j hj
    refine h_mM_signsOf_4 ⟨fun q => absurd q (i6_le j (by omega)), fun _ => ⟨m9 hS, m_signOf hS ht (by omega) ⟨_, rfl, ?_⟩⟩⟩
    rw [nI_1]
    exact ih (j + 1) (by omega)
theorem m_sumOf (hS : St sh rf nx) {N k : Nat} (hN : N ≤ 8) (hk : k < 13) (h1 : mem 102 1 = nI N) (h : K (some (.int (smF (mem 102) k N))) sh rf mem nx) : ab_Cx l G ol (d + 2) mM_sumOf [.ref 101, .int (nI k)] sh rf mem nx K := by
  suffices loop : ∀ n j, j + n = N → ab_Go l G ol (d + 1) mM_sumOf (ab_mc mM_sumOf) (ab_ms mM_sumOf) (fun r sh rf mem nx _ _ => K r sh rf mem nx) 4 [.ref 101, .int (nI k), .int (smF (mem 102) k j), .int (nI j)] [] sh rf mem nx 0 0 from e_mM_sumOf (loop N 0 (by omega))
  have e1 : mem 102 (Int32.toNatClampNeg 1) = nI N := h1
  intro n
  induction n with
  | zero =>
    intro j hj
    have : j = N := by omega
    subst this
    exact h_mM_sumOf_4 (mn hS (pk_in 1 1483 (by decide)) ⟨fun _ => ⟨trivial, h⟩, fun q => absurd (by rw [e1]; exact Int32.le_refl _) q⟩)
  | succ n ih =>
    intro j hj
    refine h_mM_sumOf_4 (mn hS (pk_in 1 1483 (by decide)) ⟨fun q => absurd q (by rw [e1]; exact nI_ge (by omega) (by omega)), fun _ => ⟨m9 hS, m_of hS (by omega) hk ⟨_, rfl, ?_⟩⟩⟩)
    rw [nI_1]
    exact ih (j + 1) (by omega)
theorem m_pad (hS : St sh rf nx) {N : Nat} (hN : N ≤ 8) (h1 : mem 102 1 = nI N) (h : K (some (.int (padF (mem 102) N))) sh rf mem nx) : ab_Cx l G ol (d + 3) mM_pad [.ref 101] sh rf mem nx K :=
  e_mM_pad ⟨m9 hS, m_sumOf hS (k := 4) hN (by decide) h1 ⟨_, rfl, m9 hS, m_sumOf hS (k := 3) hN (by decide) h1 ⟨_, rfl, trivial, h⟩⟩⟩
end MA
