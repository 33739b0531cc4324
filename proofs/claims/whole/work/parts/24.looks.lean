/-! PURE: looks; THE CLASS: World's looks -/
def setB (s : Nat → Bool) (t : Nat) : Nat → Bool := fun k => if k = t then true else s k
abbrev Lks : Type := Row × (Nat → Bool) × (Nat → Bool)
def lkR (ly : Row) (t : Nat) (f : Row) : Row := fun k => if k = tI t 5 then f k + 1 else if k = tI t 4 then f k - ly t else if k = tI t 2 then f k / 2 else f k
/-- one look at t: the row, who was looked at, who was caught -/
def lk (ly : Row) (home t : Nat) (s : Lks) : Lks :=
  if t = home ∨ s.2.1 t = true then s else if 0 < ly t then (lkR ly t s.1, setB s.2.1 t, setB s.2.2 t) else (s.1, setB s.2.1 t, s.2.2)
def lkC (ly : Row) (home t : Nat) (s : Lks) : Prop := ¬ (t = home ∨ s.2.1 t = true) ∧ 0 < ly t
def pick (N : Nat) (z : Int32) : Nat := Int32.toNatClampNeg (rem (dval (drw z)) (nI N))
def rowD (f : Row) : Row := upd f 0 (drw (f 0))
def lot1 (ly : Row) (home N : Nat) (s : Lks) : Lks := lk ly home (pick N (s.1 0)) (rowD s.1, s.2.1, s.2.2)
def cntB (ca : Nat → Bool) : Nat → Int32
  | 0 => 0
  | n + 1 => cntB ca n + (if ca n = true then 1 else 0)
theorem cntB_out {ca : Nat → Bool} {t : Nat} : ∀ n, n ≤ t → cntB (setB ca t) n = cntB ca n
  | 0, _ => rfl
  | n + 1, h => by
    unfold cntB
    rw [cntB_out n (by omega)]
    have : setB ca t n = ca n := by unfold setB; rw [if_neg (by omega)]
    rw [this]
theorem cntB_in {ca : Nat → Bool} {t : Nat} (hc : ca t = false) : ∀ n, t < n → cntB (setB ca t) n = cntB ca n + 1
  | 0, h => by omega
  | n + 1, h => by
    unfold cntB
    by_cases ht : t = n
    · subst ht
      rw [cntB_out t (Nat.le_refl _)]
      have h1 : setB ca t t = true := by unfold setB; rw [if_pos rfl]
      rw [h1, hc]
      simp
    · rw [cntB_in hc n (by omega)]
      have : setB ca t n = ca n := by unfold setB; rw [if_neg (Ne.symm ht)]
      rw [this, Int32.add_assoc, Int32.add_assoc, Int32.add_comm 1]
theorem dval_nI (z : Int32) : ∃ q, q < 2 ^ 24 ∧ dval z = nI q := by
  have h := pk_ushr z 8 8 (by decide)
  refine ⟨z.toBitVec.toNat / 2 ^ 8, ?_, ?_⟩
  · have := z.toBitVec.isLt
    omega
  · have h2 : (dval z).toBitVec.toNat = (nI (z.toBitVec.toNat / 2 ^ 8)).toBitVec.toNat := by
      have := z.toBitVec.isLt
      rw [pk_tn (by omega)]
      exact h
    have h3 : (dval z).toBitVec = (nI (z.toBitVec.toNat / 2 ^ 8)).toBitVec := BitVec.eq_of_toNat_eq h2
    exact Int32.toBitVec_inj.mp h3
theorem rem_nI {q n : Nat} (hq : q < 2 ^ 31) (hn : 0 < n) (hn2 : n < 2 ^ 31) : rem (nI q) (nI n) = nI (q % n) := pk_rem hq hn hn2
theorem rem_dval (z : Int32) {n : Nat} (hn : 0 < n) (hn2 : n < 2 ^ 31) : ∃ t, t < n ∧ rem (dval z) (nI n) = nI t := by
  obtain ⟨q, hq, e⟩ := dval_nI z
  exact ⟨q % n, Nat.mod_lt _ hn, by rw [e]; exact rem_nI (by omega) hn hn2⟩
/-- the world while it is looked at -/
def LK (mem : ab_N) (w N home : Nat) (ly f : Row) (se ca : Nat → Bool) : Prop := (mem w 7 = f 0 ∧ mem w 2 = nI N ∧ f 1 = nI N ∧ mem w 6 = f 2 ∧ mem w 3 = f 3 ∧ mem w 4 = f 4 ∧ mem w 5 = f 5 ∧ mem w 8 = f 6) ∧
  (∀ i k, i < N → k < 6 → mem (w + 3 + 2 * i) k = f (tI i k)) ∧ (∀ i, i < N → mem (w + 3 + 2 * i) 6 = if ca i = true then -1 else f (tI i 6)) ∧ (∀ i j, i < N → j < 6 → mem (w + 4 + 2 * i) j = f (tI i (7 + j))) ∧
  (∀ i, i < N → mem (w + 3 + 2 * i) 10 = if se i = true ∨ i = home then 1 else 0) ∧ (∀ i, i < N → i ≠ home → ly i = if 0 < mem (w + 3 + 2 * i) 8 then mem (w + 3 + 2 * i) 8 else 0) ∧ ∀ i, ca i = true → se i = true
theorem LK.draw {mem : ab_N} {w N home : Nat} {ly f : Row} {se ca : Nat → Bool} (h : LK mem w N home ly f se ca) (v : Int32) : LK (ab_w mem w 7 v) w N home ly (upd f 0 v) se ca := by
  obtain ⟨⟨h1, h2, h3, h4, h5, h6, h7, h8⟩, h9, h10, h11, h12, h13, h14⟩ := h
  have e : ∀ k, k ≠ 7 → ab_w mem w 7 v w k = mem w k := fun k hk => w_ne _ _ (Or.inr hk)
  have u : ∀ k, k ≠ 0 → upd f 0 v k = f k := fun k hk => by simp [upd, hk]
  have o : ∀ a k, a ≠ w → ab_w mem w 7 v a k = mem a k := fun a k ha => w_ne _ _ (Or.inl ha)
  refine ⟨⟨by rw [w_eq]; simp [upd], by rw [e 2 (by decide)]; exact h2, by rw [u 1 (by decide)]; exact h3, by rw [e 6 (by decide), u 2 (by decide)]; exact h4, by rw [e 3 (by decide), u 3 (by decide)]; exact h5, by rw [e 4 (by decide), u 4 (by decide)]; exact h6, by rw [e 5 (by decide), u 5 (by decide)]; exact h7, by rw [e 8 (by decide), u 6 (by decide)]; exact h8⟩, fun i k hi hk => ?_, fun i hi => ?_, fun i j hi hj => ?_, fun i hi => ?_, fun i hi hh => ?_, h14⟩
  · rw [o _ _ (by omega), u _ (by unfold tI; omega)]; exact h9 i k hi hk
  · rw [o _ _ (by omega), u _ (by unfold tI; omega)]; exact h10 i hi
  · rw [o _ _ (by omega), u _ (by unfold tI; omega)]; exact h11 i j hi hj
  · rw [o _ _ (by omega)]; exact h12 i hi
  · rw [o _ _ (by omega)]; exact h13 i hi hh
theorem cm_out {mem : ab_N} {t b : Nat} (h : b ≠ t) : caughtMem mem t b = mem b := by
  unfold caughtMem; split
  · simp [h]
  · exact ab_w_ne _ _ _ h
/-- the answer of a look -/
theorem LK.ans {mem : ab_N} {w N home t : Nat} {ly f : Row} {se ca : Nat → Bool} (h : LK mem w N home ly f se ca) (ht : t < N) : (mem (w + 3 + 2 * t) 10 = 0 ∧ 0 < mem (w + 3 + 2 * t) 8) ↔ lkC ly home t (f, se, ca) := by
  obtain ⟨-, -, -, -, h12, h13, -⟩ := h
  rw [h12 t ht]
  unfold lkC
  by_cases hs : se t = true ∨ t = home
  · rw [if_pos hs]
    exact ⟨fun q => absurd q.1 (by decide), fun q => absurd (Or.symm hs) q.1⟩
  · rw [if_neg hs]
    have hh : t ≠ home := fun q => hs (Or.inr q)
    have hy := h13 t ht hh
    constructor
    · intro q
      rw [if_pos q.2] at hy
      exact ⟨fun z => hs (Or.symm z), by rw [hy]; exact q.2⟩
    · intro q
      refine ⟨rfl, ?_⟩
      by_cases hp : 0 < mem (w + 3 + 2 * t) 8
      · exact hp
      · rw [if_neg hp] at hy
        have := q.2
        rw [hy] at this
        exact absurd this (by decide)
theorem LK.look {mem : ab_N} {w N home t : Nat} {ly f : Row} {se ca : Nat → Bool} (h : LK mem w N home ly f se ca) (ht : t < N) : LK (caughtMem mem (w + 3 + 2 * t)) w N home ly (lk ly home t (f, se, ca)).1 (lk ly home t (f, se, ca)).2.1 (lk ly home t (f, se, ca)).2.2 := by
  have hans := h.ans ht
  obtain ⟨⟨h1, h2, h3, h4, h5, h6, h7, h8⟩, h9, h10, h11, h12, h13, h14⟩ := h
  have ew : caughtMem mem (w + 3 + 2 * t) w = mem w := cm_out (by omega)
  by_cases hc : mem (w + 3 + 2 * t) 10 = 0 ∧ 0 < mem (w + 3 + 2 * t) 8
  · have hlc := hans.mp hc
    have elk : lk ly home t (f, se, ca) = (lkR ly t f, setB se t, setB ca t) := by
      unfold lk; rw [if_neg hlc.1, if_pos hlc.2]
    rw [elk]
    dsimp only
    have hh : t ≠ home := fun q => hlc.1 (Or.inl q)
    have ely : ly t = mem (w + 3 + 2 * t) 8 := by rw [h13 t ht hh, if_pos hc.2]
    have em : ∀ k, caughtMem mem (w + 3 + 2 * t) (w + 3 + 2 * t) k = if k = 10 then 1 else if k = 5 then mem (w + 3 + 2 * t) 5 + 1 else if k = 4 then mem (w + 3 + 2 * t) 4 - mem (w + 3 + 2 * t) 8 else if k = 2 then mem (w + 3 + 2 * t) 2 / 2 else if k = 6 then -1 else mem (w + 3 + 2 * t) k := by
      intro k; unfold caughtMem; rw [if_pos hc]; simp
    have r0 : ∀ k, k < 7 → lkR ly t f k = f k := fun k hk => by unfold lkR; rw [if_neg (by unfold tI; omega), if_neg (by unfold tI; omega), if_neg (by unfold tI; omega)]
    refine ⟨⟨by rw [ew, r0 0 (by decide)]; exact h1, by rw [ew]; exact h2, by rw [r0 1 (by decide)]; exact h3, by rw [ew, r0 2 (by decide)]; exact h4, by rw [ew, r0 3 (by decide)]; exact h5, by rw [ew, r0 4 (by decide)]; exact h6, by rw [ew, r0 5 (by decide)]; exact h7, by rw [ew, r0 6 (by decide)]; exact h8⟩, fun i k hi hk => ?_, fun i hi => ?_, fun i j hi hj => ?_, fun i hi => ?_, fun i hi hhi => ?_, fun i hi => ?_⟩
    · by_cases hit : i = t
      · subst hit
        rw [em, if_neg (by omega : ¬ k = 10)]
        unfold lkR
        have hk9 := h9 i k hi hk
        by_cases k5 : k = 5
        · subst k5; rw [if_pos rfl, if_pos rfl, hk9]
        · rw [if_neg k5, if_neg (by unfold tI; omega : ¬ tI i k = tI i 5)]
          by_cases k4 : k = 4
          · subst k4; rw [if_pos rfl, if_pos rfl, hk9, ely]
          · rw [if_neg k4, if_neg (by unfold tI; omega : ¬ tI i k = tI i 4)]
            by_cases k2 : k = 2
            · subst k2; rw [if_pos rfl, if_pos rfl, hk9]
            · rw [if_neg k2, if_neg (by omega : ¬ k = 6), if_neg (by unfold tI; omega : ¬ tI i k = tI i 2), hk9]
      · rw [cm_out (by omega), h9 i k hi hk]
        unfold lkR
        rw [if_neg (by unfold tI; omega), if_neg (by unfold tI; omega), if_neg (by unfold tI; omega)]
    · by_cases hit : i = t
      · subst hit
        rw [em, if_neg (by decide), if_neg (by decide), if_neg (by decide), if_neg (by decide), if_pos rfl]
        simp [setB]
      · rw [cm_out (by omega), h10 i hi]
        have e1 : setB ca t i = ca i := by unfold setB; rw [if_neg hit]
        have e2 : lkR ly t f (tI i 6) = f (tI i 6) := by unfold lkR; rw [if_neg (by unfold tI; omega), if_neg (by unfold tI; omega), if_neg (by unfold tI; omega)]
        show _ = if setB ca t i = true then -1 else lkR ly t f (tI i 6)
        rw [e1, e2]
    · rw [cm_out (by omega), h11 i j hi hj]
      show _ = lkR ly t f _
      unfold lkR; rw [if_neg (by unfold tI; omega), if_neg (by unfold tI; omega), if_neg (by unfold tI; omega)]
    · by_cases hit : i = t
      · subst hit
        rw [em, if_pos rfl]
        simp [setB]
      · rw [cm_out (by omega), h12 i hi]
        have e1 : setB se t i = se i := by unfold setB; rw [if_neg hit]
        show _ = if setB se t i = true ∨ i = home then 1 else 0
        rw [e1]
    · by_cases hit : i = t
      · subst hit
        have e8 : caughtMem mem (w + 3 + 2 * i) (w + 3 + 2 * i) 8 = mem (w + 3 + 2 * i) 8 := by rw [em]; rfl
        rw [e8]
        exact h13 i hi hhi
      · rw [cm_out (by omega)]; exact h13 i hi hhi
    · have hi : setB ca t i = true := hi
      show setB se t i = true
      unfold setB at hi ⊢
      by_cases hit : i = t
      · rw [if_pos hit]
      · rw [if_neg hit] at hi ⊢; exact h14 i hi
  · have hnc : ¬ lkC ly home t (f, se, ca) := fun q => hc (hans.mpr q)
    have ecm : caughtMem mem (w + 3 + 2 * t) = ab_w mem (w + 3 + 2 * t) 10 1 := by unfold caughtMem; rw [if_neg hc]
    have o : ∀ a k, a ≠ w + 3 + 2 * t ∨ k ≠ 10 → caughtMem mem (w + 3 + 2 * t) a k = mem a k := fun a k q => by rw [ecm]; exact w_ne _ _ q
    have e10 : caughtMem mem (w + 3 + 2 * t) (w + 3 + 2 * t) 10 = 1 := by rw [ecm, w_eq]
    -- the row and who was caught stay
    obtain ⟨se2, hlk, hse, hse2⟩ : ∃ se2, lk ly home t (f, se, ca) = (f, se2, ca) ∧ (∀ i, i ≠ t → se2 i = se i) ∧ ((se2 t = true ∨ t = home) ∧ ∀ i, se i = true → se2 i = true) := by
      unfold lk
      by_cases hs : t = home ∨ se t = true
      · rw [if_pos hs]
        exact ⟨se, rfl, fun _ _ => rfl, Or.symm hs, fun _ q => q⟩
      · rw [if_neg hs, if_neg (fun q => hnc ⟨hs, q⟩)]
        refine ⟨setB se t, rfl, fun i hi => by unfold setB; rw [if_neg hi], Or.inl (by unfold setB; rw [if_pos rfl]), fun i q => ?_⟩
        unfold setB; split
        · rfl
        · exact q
    rw [hlk]
    dsimp only
    refine ⟨⟨by rw [ew]; exact h1, by rw [ew]; exact h2, h3, by rw [ew]; exact h4, by rw [ew]; exact h5, by rw [ew]; exact h6, by rw [ew]; exact h7, by rw [ew]; exact h8⟩, fun i k hi hk => ?_, fun i hi => ?_, fun i j hi hj => ?_, fun i hi => ?_, fun i hi hhi => ?_, fun i hi => hse2.2 i (h14 i hi)⟩
    · rw [o _ _ (Or.inr (by omega))]; exact h9 i k hi hk
    · rw [o _ _ (Or.inr (by decide))]; exact h10 i hi
    · rw [o _ _ (Or.inl (by omega))]; exact h11 i j hi hj
    · by_cases hit : i = t
      · subst hit
        rw [e10]
        show 1 = if se2 i = true ∨ i = home then 1 else 0
        rw [if_pos hse2.1]
      · rw [o _ _ (Or.inl (by omega)), h12 i hi]
        show _ = if se2 i = true ∨ i = home then 1 else 0
        rw [hse i hit]
    · rw [o _ _ (Or.inr (by decide))]; exact h13 i hi hhi
theorem lk_cnt {ly : Row} {home t N : Nat} {s : Lks} (h14 : ∀ i, s.2.2 i = true → s.2.1 i = true) (ht : t < N) : (lkC ly home t s → cntB (lk ly home t s).2.2 N = cntB s.2.2 N + 1) ∧ (¬ lkC ly home t s → cntB (lk ly home t s).2.2 N = cntB s.2.2 N) := by
  constructor
  · intro hc
    have : lk ly home t s = (lkR ly t s.1, setB s.2.1 t, setB s.2.2 t) := by unfold lk; rw [if_neg hc.1, if_pos hc.2]
    rw [this]
    refine cntB_in ?_ N ht
    cases hq : s.2.2 t with
    | false => rfl
    | true => exact absurd (Or.inr (h14 t hq)) hc.1
  · intro hc
    unfold lk
    by_cases hs : t = home ∨ s.2.1 t = true
    · rw [if_pos hs]
    · rw [if_neg hs, if_neg (fun q => hc ⟨hs, q⟩)]
theorem Fr.caught {w : Nat} {mem : ab_N} {i : Nat} (hi : i < 8) : Fr w mem (caughtMem mem (w + 3 + 2 * i)) := ⟨fun a ha _ => cm_out (by omega), cm_out (by omega), by rw [cm_out (by omega)]⟩
def itr {α : Type} (g : α → α) (s : α) (n : Nat) : α := Nat.rec s (fun _ a => g a) n
theorem itr_0 {α : Type} (g : α → α) (s : α) : itr g s 0 = s := rfl
theorem itr_s {α : Type} (g : α → α) (s : α) (n : Nat) : itr g s (n + 1) = g (itr g s n) := rfl
def lots (ly : Row) (home N : Nat) (s : Lks) (n : Nat) : Lks := itr (lot1 ly home N) s n
theorem lots_0 (ly : Row) (home N : Nat) (s : Lks) : lots ly home N s 0 = s := itr_0 _ _
theorem lots_s (ly : Row) (home N : Nat) (s : Lks) (n : Nat) : lots ly home N s (n + 1) = lot1 ly home N (lots ly home N s n) := itr_s _ _ _
theorem lk_keep {ly : Row} {home t k : Nat} {s : Lks} (hk : k < 7) : (lk ly home t s).1 k = s.1 k := by
  unfold lk
  by_cases h1 : t = home ∨ s.2.1 t = true
  · rw [if_pos h1]
  · rw [if_neg h1]
    by_cases h2 : 0 < ly t
    · rw [if_pos h2]
      show lkR ly t s.1 k = s.1 k
      unfold lkR; rw [if_neg (by unfold tI; omega), if_neg (by unfold tI; omega), if_neg (by unfold tI; omega)]
    · rw [if_neg h2]
theorem rowD_ne {f : Row} {k : Nat} (h : k ≠ 0) : rowD f k = f k := pk_un h
