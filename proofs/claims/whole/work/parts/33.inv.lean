/-! PURE: in which bounds a row stays -/
def TrW (D : Nat) (f : Row) (i : Nat) : Prop := (∃ k, k < 6 ∧ f (tI i 0) = nI k) ∧ (∃ n, n ≤ 99 ∧ f (tI i 1) = nI n) ∧ (∃ b, b ≤ 99 ∧ f (tI i 2) = nI b) ∧ (∃ c, c ≤ 1138 * D ∧ f (tI i 4) = nI c) ∧ ∃ s, s ≤ D ∧ f (tI i 6) = nI s
def Wf (N D : Nat) (f : Row) : Prop := f 1 = nI N ∧ (∃ a, 1 ≤ a ∧ a ≤ 999 ∧ f 3 = nI a) ∧ (∃ a, a ≤ 8 ∧ f 4 = nI a) ∧ (f 5 = 0 ∨ f 5 = 1) ∧ f 2 = nI D ∧ ∀ i, i < N → TrW D f i
def CtR (ct : Ct) : Prop := ∀ a b c, ∃ k, k ≤ 999 ∧ ct a b c = nI k
theorem clp_rg (v : Int32) : ∃ k, k ≤ 999 ∧ clp v = nI k := by
  unfold clp
  by_cases h : v < 999
  · simp only [if_pos h]
    by_cases h0 : 0 < v
    · rw [if_pos h0]
      obtain ⟨k, hk, rfl⟩ := nI_of (fun q => absurd h0 (Int32.not_lt.mpr (Int32.le_of_lt q)))
      exact ⟨k, by have := (nI_ltI (b := 999) hk (by decide)).mp h; omega, rfl⟩
    · rw [if_neg h0]; exact ⟨0, by omega, rfl⟩
  · simp only [if_neg h]
    exact ⟨999, by omega, by rw [if_pos (by decide)]; rfl⟩
theorem ctO_rg (o : Option (Row × Nat)) : CtR (ctO o) := fun _ _ _ => clp_rg _
theorem pdd_rg {c v line : Nat} (hl : line ≤ 999) (h1 : 1 ≤ line) (hcv : c ≤ v) (hv : v ≤ 1138) : ∃ a, c ≤ a ∧ a ≤ 1138 ∧ pdd (nI c) (nI v) (nI line) = nI a := by
  unfold pdd
  by_cases h : nI line ≤ nI v ∧ nI c < nI line
  · rw [if_pos h]
    have := (nI_ltI (by omega) (by omega)).mp h.2
    exact ⟨line - 1, by omega, by omega, pk_sub (b := 1) h1⟩
  · rw [if_neg h]; exact ⟨v, hcv, hv, rfl⟩
theorem ask_rg {k b s line c : Nat} (hk : k < 6) (hb : b ≤ 99) (hs : s < 2 ^ 30) (hl1 : 1 ≤ line) (hl : line ≤ 999) (hc : c ≤ 999) : ∃ a, c ≤ a ∧ a ≤ 1138 ∧ ask (nI k) (nI b) (nI s) (nI line) (nI c) = nI a := by
  unfold ask
  have lit : ∀ n, n < 6 → (nI k = nI n ↔ k = n) := fun n hn => nI_eq (by omega) (by omega)
  have L1 : nI k = 1 ↔ k = 1 := lit 1 (by decide)
  have L2 : nI k = 2 ↔ k = 2 := lit 2 (by decide)
  have L3 : nI k = 3 ↔ k = 3 := lit 3 (by decide)
  have L4 : nI k = 4 ↔ k = 4 := lit 4 (by decide)
  have L5 : nI k = 5 ↔ k = 5 := lit 5 (by decide)
  by_cases k1 : k = 1
  · rw [if_pos (L1.mpr k1)]
    refine ⟨(c + 4) / 5 * 5, by omega, by omega, ?_⟩
    show (nI c + nI 4) / nI 5 * nI 5 = _
    rw [nI_add, pk_div (by omega) (by decide) (by decide), pk_mul]
  rw [if_neg (fun q => k1 (L1.mp q))]
  by_cases k2 : k = 2
  · rw [if_pos (L2.mpr k2), nI_add]; exact pdd_rg hl hl1 (by omega) (by omega)
  rw [if_neg (fun q => k2 (L2.mp q))]
  by_cases k3 : k = 3
  · rw [if_pos (L3.mpr k3)]
    refine ⟨(c + 9) / 10 * 10, by omega, by omega, ?_⟩
    show (nI c + nI 9) / nI 10 * nI 10 = _
    rw [nI_add, pk_div (by omega) (by decide) (by decide), pk_mul]
  rw [if_neg (fun q => k3 (L3.mp q))]
  by_cases k4 : k = 4
  · rw [if_pos (L4.mpr k4)]
    have : ∃ m, m ≤ 20 ∧ (if (20 : Int32) < nI s then (20 : Int32) else nI s) = nI m := by
      by_cases q : (20 : Int32) < nI s
      · exact ⟨20, by omega, by rw [if_pos q]; rfl⟩
      · rw [if_neg q]
        refine ⟨s, ?_, rfl⟩
        rcases Nat.lt_or_ge 20 s with z | z
        · exact absurd (nI_lt (a := 20) z (by omega)) q
        · exact z
    obtain ⟨m, hm, em⟩ := this
    rw [em, show (2 : Int32) * nI m = nI (2 * m) from pk_mul 2 m, nI_add, nI_add]
    exact pdd_rg hl hl1 (by omega) (by omega)
  rw [if_neg (fun q => k4 (L4.mp q))]
  by_cases k5 : k = 5
  · rw [if_pos (L5.mpr k5), show nI line - 1 = nI (line - 1) from pk_sub (b := 1) hl1]
    by_cases q : nI c < nI (line - 1)
    · rw [if_pos q]
      have := (nI_ltI (by omega) (by omega)).mp q
      exact ⟨line - 1, by omega, by omega, rfl⟩
    · rw [if_neg q]; exact ⟨c, by omega, by omega, rfl⟩
  rw [if_neg (fun q => k5 (L5.mp q))]
  exact ⟨c, by omega, by omega, rfl⟩
/-- what travelling leaves -/
theorem trAll_un {ct : Ct} {home i k : Nat} {f : Row} (hk : k < 13) (hp : k ≠ 3 ∧ k ≠ 4 ∧ k < 7) : ∀ n, trAll ct home f n (tI i k) = f (tI i k)
  | 0 => rfl
  | n + 1 => by
    rw [trAll, trF_e (by unfold tI; omega) (by unfold tI; omega) (by unfold tI; omega) (by unfold tI; omega)]
    exact trAll_un hk hp n
theorem trAll_ge {ct : Ct} {home i k : Nat} {f : Row} (hk : k < 13) : ∀ n, n ≤ i → trAll ct home f n (tI i k) = f (tI i k)
  | 0, _ => rfl
  | n + 1, h => by
    rw [trAll, trF_e (by unfold tI; omega) (by unfold tI; omega) (by unfold tI; omega) (by unfold tI; omega)]
    exact trAll_ge hk n (by omega)
theorem trAll_home {ct : Ct} {home k : Nat} {f : Row} (hk : k ≠ 0) (n : Nat) (i : Nat) (e : i = home) (hi : n = i + 1) : trAll ct home f n k = trAll ct home f i k := by
  subst e; subst hi
  rw [trAll, trF_home, pk_un hk]
theorem trAll_lt {ct : Ct} {home i k : Nat} {f : Row} (hk : k < 13) : ∀ n, i < n → trAll ct home f n (tI i k) = trAll ct home f (i + 1) (tI i k)
  | 0, h => by omega
  | n + 1, h => by
    rcases Nat.lt_or_ge i n with q | q
    · rw [trAll, trF_e (by unfold tI; omega) (by unfold tI; omega) (by unfold tI; omega) (by unfold tI; omega)]
      exact trAll_lt hk n q
    · have : i = n := by omega
      subst this; rfl
theorem trAll_low {ct : Ct} {home k : Nat} {f : Row} (h0 : k ≠ 0) (hk : k < 7) (n : Nat) : trAll ct home f n k = f k := trAll_keep h0 hk n
/-- what one spends and asks for, in bounds -/
theorem tr_rg {ct : Ct} {home N D i : Nat} {f : Row} (hct : CtR ct) (hD : D ≤ 100000) (hW : Wf N D f) (hi : i < N) : ∃ c a, c ≤ 999 ∧ c ≤ a ∧ a ≤ 1138 ∧ trC ct i (trAll ct home f i) = nI c ∧ trA ct i (trAll ct home f i) = nI a := by
  obtain ⟨h1, ⟨line, hl1, hl, h3⟩, _, _, _, ht⟩ := hW
  obtain ⟨⟨k, hk, e0⟩, _, ⟨b, hb, e2⟩, _, ⟨s, hs, e6⟩⟩ := ht i hi
  obtain ⟨c, hc, ec⟩ := hct (trAll ct home f i (tI i 1)) (rem (dval (drw (trAll ct home f i 0))) 20) (trAll ct home f i 2)
  have hcc : trC ct i (trAll ct home f i) = nI c := ec
  obtain ⟨a, h1, h2, h3'⟩ := ask_rg (k := k) (b := b) (s := s) (line := line) (c := c) hk hb (by omega) hl1 hl hc
  refine ⟨c, a, hc, h1, h2, hcc, ?_⟩
  unfold trA
  rw [hcc, trAll_un (by decide) (by decide), trAll_un (by decide) (by decide), trAll_un (by decide) (by decide), trAll_low (by decide) (by decide), e0, e2, e6, h3]
  exact h3'
theorem Bd_of {ct : Ct} {home N D : Nat} {f : Row} (hct : CtR ct) (hD : D ≤ 100000) (hW : Wf N D f) : Bd ct home N f := by
  intro i hi hh
  obtain ⟨c, a, hc, hca, ha, e1, e2⟩ := tr_rg (home := home) hct hD hW hi
  rw [e1, e2, pk_sub hca, show (0 : Int32) = nI 0 from rfl, nI_ltI (by omega) (by omega), nI_ltI (by omega) (by omega)]
  omega
/-- while looks go on: lo, what was claimed before; ly, what may go again -/
def LkW (N : Nat) (ly : Row) (f0 : Row) (lo : Nat → Nat) (s : Lks) : Prop := (∀ k, k ≠ 0 → k < 7 → s.1 k = f0 k) ∧ ∀ i, i < N → (s.1 (tI i 0) = f0 (tI i 0) ∧ s.1 (tI i 1) = f0 (tI i 1) ∧ s.1 (tI i 6) = f0 (tI i 6)) ∧ (∃ b, b ≤ 99 ∧ s.1 (tI i 2) = nI b) ∧ ∃ x l, s.1 (tI i 4) = nI x ∧ ly i = nI l ∧ l ≤ 1138 ∧ lo i ≤ x ∧ x ≤ lo i + 1138 ∧ (s.2.1 i = false → lo i + l ≤ x)
theorem lkR_e {ly : Row} {t k : Nat} {f : Row} (h5 : k ≠ tI t 5) (h4 : k ≠ tI t 4) (h2 : k ≠ tI t 2) : lkR ly t f k = f k := by unfold lkR; rw [if_neg h5, if_neg h4, if_neg h2]
theorem LkW.look {N home t : Nat} {ly f0 : Row} {lo : Nat → Nat} {s : Lks} (hlo : ∀ i, i < N → lo i ≤ 1138 * 100000) (h : LkW N ly f0 lo s) : LkW N ly f0 lo (lk ly home t s) := by
  obtain ⟨g, se, ca⟩ := s
  obtain ⟨h1, h2⟩ := h
  simp only at h1 h2
  unfold lk
  by_cases c1 : t = home ∨ se t = true
  · rw [if_pos c1]; exact ⟨h1, h2⟩
  rw [if_neg c1]
  have hse : se t = false := by
    cases e : se t with
    | true => exact absurd (Or.inr e) c1
    | false => rfl
  have sB : ∀ i, setB se t i = false → se i = false := fun i q => by
    unfold setB at q
    by_cases e : i = t
    · rw [if_pos e] at q; cases q
    · rw [if_neg e] at q; exact q
  by_cases c2 : 0 < ly t
  · rw [if_pos c2]
    refine ⟨fun k k0 k7 => by simp only; rw [lkR_e (by unfold tI; omega) (by unfold tI; omega) (by unfold tI; omega)]; exact h1 k k0 k7, fun i hi => ?_⟩
    obtain ⟨⟨a0, a1, a6⟩, ⟨b, hb, eb⟩, x, l, ex, el, hl, hx1, hx2, hx3⟩ := h2 i hi
    simp only
    refine ⟨⟨by rw [lkR_e (by unfold tI; omega) (by unfold tI; omega) (by unfold tI; omega)]; exact a0, by rw [lkR_e (by unfold tI; omega) (by unfold tI; omega) (by unfold tI; omega)]; exact a1, by rw [lkR_e (by unfold tI; omega) (by unfold tI; omega) (by unfold tI; omega)]; exact a6⟩, ?_, ?_⟩
    · by_cases e : i = t
      · subst e
        refine ⟨b / 2, by omega, ?_⟩
        unfold lkR
        rw [if_neg (by unfold tI; omega), if_neg (by unfold tI; omega), if_pos rfl, eb]
        exact pk_div (d := 2) (by omega) (by decide) (by decide)
      · rw [lkR_e (by unfold tI; omega) (by unfold tI; omega) (by unfold tI; omega)]; exact ⟨b, hb, eb⟩
    · by_cases e : i = t
      · subst e
        have := hx3 hse
        refine ⟨x - l, l, ?_, el, hl, by omega, by omega, fun q => ?_⟩
        · unfold lkR
          rw [if_neg (by unfold tI; omega), if_pos rfl, ex, el]
          exact pk_sub (by omega)
        · unfold setB at q
          rw [if_pos rfl] at q; cases q
      · rw [lkR_e (by unfold tI; omega) (by unfold tI; omega) (by unfold tI; omega)]
        exact ⟨x, l, ex, el, hl, hx1, hx2, fun q => hx3 (sB i q)⟩
  · rw [if_neg c2]
    refine ⟨h1, fun i hi => ?_⟩
    obtain ⟨a, b, x, l, ex, el, hl, hx1, hx2, hx3⟩ := h2 i hi
    exact ⟨a, b, x, l, ex, el, hl, hx1, hx2, fun q => hx3 (sB i q)⟩
theorem LkW.draw {N : Nat} {ly f0 : Row} {lo : Nat → Nat} {s : Lks} (h : LkW N ly f0 lo s) : LkW N ly f0 lo (rowD s.1, s.2.1, s.2.2) := by
  obtain ⟨h1, h2⟩ := h
  refine ⟨fun k k0 k7 => by simp only; rw [rowD_ne k0]; exact h1 k k0 k7, fun i hi => ?_⟩
  have e : ∀ k, rowD s.1 (tI i k) = s.1 (tI i k) := fun k => rowD_ne (by unfold tI; omega)
  simp only [e]
  exact h2 i hi
theorem LkW_lots {N home : Nat} {ly f0 : Row} {lo : Nat → Nat} {s : Lks} (hlo : ∀ i, i < N → lo i ≤ 1138 * 100000) (h : LkW N ly f0 lo s) (n : Nat) : LkW N ly f0 lo (lots ly home N s n) := by
  induction n with
  | zero => rw [lots_0]; exact h
  | succ n ih =>
    rw [lots_s]
    obtain ⟨t, et⟩ := lot1_eq ly home N (lots ly home N s n)
    rw [et]
    exact ih.draw.look hlo
theorem LkW_sgns {N home : Nat} {ly f0 : Row} {lo : Nat → Nat} {s : Lks} (hlo : ∀ i, i < N → lo i ≤ 1138 * 100000) (h : LkW N ly f0 lo s) (n : Nat) : LkW N ly f0 lo (sgns ly home N s n) := by
  induction n with
  | zero => rw [sgns_0]; exact h
  | succ n ih =>
    rw [sgns_s]
    unfold sgn1
    split
    · exact ih
    · exact ih.look hlo
theorem trL_rg {ct : Ct} {home N D i : Nat} {f : Row} (hct : CtR ct) (hD : D ≤ 100000) (hW : Wf N D f) (hi : i < N) : ∃ l, l ≤ 1138 ∧ trL ct home f i = nI l ∧ (i = home → l = 0) ∧ (i ≠ home → ∃ c a, c ≤ 999 ∧ c ≤ a ∧ a ≤ 1138 ∧ l = a - c ∧ trA ct i (trAll ct home f i) = nI a) := by
  obtain ⟨c, a, hc, hca, ha, e1, e2⟩ := tr_rg (home := home) hct hD hW hi
  unfold trL
  by_cases h : i = home
  · rw [if_pos h]; exact ⟨0, by omega, rfl, fun _ => rfl, fun q => absurd h q⟩
  · rw [if_neg h, e1, e2]
    by_cases q : nI c < nI a
    · rw [if_pos q]; exact ⟨a - c, by omega, pk_sub hca, fun z => absurd z h, fun _ => ⟨c, a, hc, hca, ha, rfl, rfl⟩⟩
    · rw [if_neg q]
      have : a = c := by
        rcases Nat.lt_or_ge c a with z | z
        · exact absurd (nI_lt z (by omega)) q
        · omega
      exact ⟨0, by omega, rfl, fun z => absurd z h, fun _ => ⟨c, a, hc, hca, ha, by omega, rfl⟩⟩
theorem trAll_LkW {ct : Ct} {home N D : Nat} {f : Row} (hct : CtR ct) (hD : D ≤ 100000) (hW : Wf N D f) : LkW N (trL ct home f) f (fun i => (f (tI i 4)).toNatClampNeg) (trAll ct home f N, noB, noB) := by
  refine ⟨fun k k0 k7 => trAll_keep k0 k7 N, fun i hi => ?_⟩
  obtain ⟨_, _, _, _, _, ht⟩ := id hW
  obtain ⟨_, _, ⟨b, hb, e2⟩, ⟨c4, hc4, e4⟩, _⟩ := ht i hi
  obtain ⟨l, hl, el, hl0, hl1⟩ := trL_rg (home := home) hct hD hW hi
  have ecl : (f (tI i 4)).toNatClampNeg = c4 := by rw [e4]; exact nI_clamp (by omega)
  refine ⟨⟨trAll_un (by decide) (by decide) N, trAll_un (by decide) (by decide) N, trAll_un (by decide) (by decide) N⟩, ⟨b, hb, by simp only; rw [trAll_un (by decide) (by decide) N]; exact e2⟩, ?_⟩
  simp only [ecl]
  by_cases h : i = home
  · have : trAll ct home f N (tI i 4) = nI c4 := by
      rw [trAll_lt (by decide) N hi, trAll_home (by unfold tI; omega) _ i h rfl, trAll_ge (by decide) i (Nat.le_refl _), e4]
    exact ⟨c4, l, this, el, hl, by omega, by omega, fun _ => by have := hl0 h; omega⟩
  · obtain ⟨c, a, hc, hca, ha, rfl, ea⟩ := hl1 h
    have : trAll ct home f N (tI i 4) = nI (c4 + a) := by
      rw [trAll_lt (by decide) N hi, trAll, trF_4 h, ea, trAll_ge (by decide) i (Nat.le_refl _), e4, nI_add]
    exact ⟨c4 + a, a - c, this, el, hl, by omega, by omega, fun _ => by omega⟩
/-- what one has claimed in all -/
def cn (f : Row) (i : Nat) : Nat := (f (tI i 4)).toNatClampNeg
theorem cn_eq {N D i : Nat} {f : Row} (hD : D ≤ 200000) (hW : Wf N D f) (hi : i < N) : f (tI i 4) = nI (cn f i) ∧ cn f i ≤ 1138 * D := by
  obtain ⟨c, hc, e⟩ := (hW.2.2.2.2.2 i hi).2.2.2.1
  have : cn f i = c := by unfold cn; rw [e]; exact nI_clamp (by omega)
  rw [this]; exact ⟨e, hc⟩
/-- a day keeps the bounds; nobody's claims in all become less -/
theorem Wf.day {ct : Ct} {home N D : Nat} {f : Row} (hct : CtR ct) (hD : D ≤ 100000) (hW : Wf N D f) : Wf N (D + 1) (dayF ct home N f) ∧ (∀ i, i < N → cn f i ≤ cn (dayF ct home N f) i ∧ cn (dayF ct home N f) i ≤ cn f i + 1138) ∧ ∀ k, k = 1 ∨ k = 3 ∨ k = 4 ∨ k = 5 ∨ k = 6 → dayF ct home N f k = f k := by
  have h0 := trAll_LkW (home := home) hct hD hW
  have hlo : ∀ i, i < N → (fun i => (f (tI i 4)).toNatClampNeg) i ≤ 1138 * 100000 := fun i hi => by
    obtain ⟨c, hc, e⟩ := (hW.2.2.2.2.2 i hi).2.2.2.1
    simp only
    rw [e, nI_clamp (by omega)]; omega
  have hs : LkW N (trL ct home f) f (fun i => (f (tI i 4)).toNatClampNeg) (dayS ct home N f) := by
    unfold dayS
    split
    · exact LkW_lots hlo h0 _
    · exact LkW_sgns hlo h0 _
  unfold dayF
  generalize dayS ct home N f = s at hs
  obtain ⟨k1, k2⟩ := hs
  have low : ∀ k, k = 1 ∨ k = 3 ∨ k = 4 ∨ k = 5 ∨ k = 6 → finR N s.1 s.2.2 k = f k := fun k hk => by rw [finR_e (by omega) (by omega)]; exact k1 k (by omega) (by omega)
  obtain ⟨w1, w3, w4, w5, w2, wt⟩ := hW
  refine ⟨⟨by rw [low 1 (by omega)]; exact w1, by rw [low 3 (by omega)]; exact w3, by rw [low 4 (by omega)]; exact w4, by rw [low 5 (by omega)]; exact w5, by rw [finR_2, k1 2 (by decide) (by decide), w2, nI_1], fun i hi => ?_⟩, fun i hi => ?_, low⟩
  · obtain ⟨⟨a0, a1, a6⟩, ⟨b, hb, eb⟩, x, l, ex, el, hl, hx1, hx2, hx3⟩ := k2 i hi
    obtain ⟨t0, t1, t2, ⟨c, hc, ec⟩, sn, hs, es⟩ := wt i hi
    have e4 : (f (tI i 4)).toNatClampNeg = c := by rw [ec]; exact nI_clamp (by omega)
    simp only [e4] at hx2
    have fe : ∀ k, k < 6 → finR N s.1 s.2.2 (tI i k) = s.1 (tI i k) := fun k hk => finR_e (by unfold tI; omega) (by unfold tI; omega)
    refine ⟨by rw [fe 0 (by decide), a0]; exact t0, by rw [fe 1 (by decide), a1]; exact t1, ⟨b, hb, by rw [fe 2 (by decide)]; exact eb⟩, ⟨x, by omega, by rw [fe 4 (by decide)]; exact ex⟩, ?_⟩
    rw [finR_6 hi]
    split
    · exact ⟨0, by omega, rfl⟩
    · exact ⟨sn + 1, by omega, by rw [a6, es, nI_1]⟩
  · obtain ⟨_, _, x, l, ex, el, hl, hx1, hx2, hx3⟩ := k2 i hi
    obtain ⟨t0, t1, t2, ⟨c, hc, ec⟩, _⟩ := wt i hi
    have e4 : (f (tI i 4)).toNatClampNeg = c := by rw [ec]; exact nI_clamp (by omega)
    simp only [e4] at hx1 hx2
    have y1 : cn f i = c := e4
    have y2 : cn (finR N s.1 s.2.2) i = x := by unfold cn; rw [finR_e (by unfold tI; omega) (by unfold tI; omega), ex]; exact nI_clamp (by omega)
    rw [y1, y2]; exact ⟨hx1, hx2⟩
theorem Wf.pass {ct : Ct} {home N D : Nat} {f : Row} (hct : CtR ct) (hW : Wf N D f) : ∀ n, D + n ≤ 100000 → Wf N (D + n) (pasF ct home N f n).1 ∧ (∀ i, i < N → cn f i ≤ cn (pasF ct home N f n).1 i ∧ cn (pasF ct home N f n).1 i ≤ cn f i + 1138 * n) ∧ ∀ k, k = 1 ∨ k = 3 ∨ k = 4 ∨ k = 5 ∨ k = 6 → (pasF ct home N f n).1 k = f k := by
  intro n
  induction n with
  | zero =>
    intro _
    rw [pasF_0]
    exact ⟨hW, fun i hi => ⟨Nat.le_refl _, Nat.le_add_right _ _⟩, fun _ _ => rfl⟩
  | succ n ih =>
    intro hn
    obtain ⟨h1, h2, h3⟩ := ih (by omega)
    have hd := h1.day (home := home) hct (by omega)
    rw [pasF_s]
    unfold dstep
    simp only
    generalize pasF ct home N f n = g at *
    refine ⟨hd.1, fun i hi => ?_, fun k hk => (hd.2.2 k hk).trans (h3 k hk)⟩
    have a1 := h2 i hi
    have a2 := hd.2.1 i hi
    exact ⟨Nat.le_trans a1.1 a2.1, by omega⟩
/-- what s_pass asks for -/
theorem Wf.ok {ct : Ct} {home N D : Nat} {f : Row} (hct : CtR ct) (hW : Wf N D f) {n : Nat} (hn : D + n ≤ 100000) : ∃ Lk, Lk ≤ 8 ∧ f 4 = nI Lk ∧ (∀ i, i < n → Bd ct home N (pasF ct home N f i).1) ∧ ∀ i, i < n → (pasF ct home N f i).1 4 = nI Lk := by
  obtain ⟨Lk, hL, e⟩ := hW.2.2.1
  refine ⟨Lk, hL, e, fun i hi => ?_, fun i hi => ?_⟩
  · exact Bd_of hct (D := D + i) (by omega) (hW.pass hct i (by omega)).1
  · rw [(hW.pass (home := home) hct i (by omega)).2.2 4 (by omega)]; exact e
