/-! THE CLASS: Traveller -/
section XT
variable {l : Launch} {G : ab_G} {ol : ab_Ol} {d : Nat} {sh : ab_S} {rf : ab_R} {mem : ab_N} {nx : Nat} {K : ab_K}
theorem i6_le : ∀ j, j < 6 → ¬ (6 : Int32) ≤ nI j := by decide +kernel
set_option maxHeartbeats 2000000 in
theorem s_signsAt (hS : St sh rf nx) {t : Nat} (ht : Td t) {line : Int32} (h : K (some (.int (sg (mem (t + 1)) line 6))) sh rf mem nx) : ab_Cx l G ol (d + 1) mTr_signsAt [.ref t, .int line] sh rf mem nx K := by
  suffices loop : ∀ n j, j + n = 6 → ∀ x4 x5, ab_Go l G ol d mTr_signsAt (ab_mc mTr_signsAt) (ab_ms mTr_signsAt) (fun r sh rf mem nx _ _ => K r sh rf mem nx) 4 [.ref t, .int line, .int (sg (mem (t + 1)) line j), .int (nI j), x4, x5] [] sh rf mem nx 0 0 from e_mTr_signsAt (loop 6 0 rfl _ _)
  intro n
  induction n with
  | zero =>
    intro j hj x4 x5
    have : j = 6 := by omega
    subst this
    exact h_mTr_signsAt_4 ⟨fun _ => ⟨trivial, h⟩, fun q => absurd (by decide) q⟩
  | succ n ih =>
    intro j hj x4 x5
    have hj6 : j < 6 := by omega
    have key : ∀ v3 x4 x5, v3 = sg (mem (t + 1)) line (j + 1) → ab_Go l G ol d mTr_signsAt (ab_mc mTr_signsAt) (ab_ms mTr_signsAt) (fun r sh rf mem nx _ _ => K r sh rf mem nx) 4 [.ref t, .int line, .int v3, .int (nI j + 1), x4, x5] [] sh rf mem nx 0 0 := by
      rintro _ x4 x5 rfl
      rw [nI_1]
      exact ih (j + 1) (by omega) x4 x5
    have e1 : Int32.toNatClampNeg (nI j) = j := nI_clamp (by omega)
    have e2 : Int32.toNatClampNeg (nI j + 1) = j + 1 := by rw [nI_1]; exact nI_clamp (by omega)
    have e3 : (6 : Int32) ≤ nI j + 1 ↔ ¬ j < 5 := by
      rw [nI_1]
      have : ∀ j, j < 6 → ((6 : Int32) ≤ nI (j + 1) ↔ ¬ j < 5) := by decide +kernel
      exact this j hj6
    refine h_mTr_signsAt_4 ⟨fun q => absurd q (i6_le j hj6), fun _ => ⟨td_is hS ht, td_rd hS ht ⟨td_is1 hS ht, td_in hS ht (vp_in_nI hj6 (by decide)), ?_⟩⟩⟩
    simp only [e1, e2, e3]
    have tin : j < 5 → vp_in (nI j + 1) (sh (t + 1)).2 := fun q => td_in hS ht (by rw [nI_1]; exact vp_in_nI (by omega) (by decide))
    repeat' first
      | refine key _ _ _ ?_
      | exact (by decide : ¬ (10 : Int32) = 0)
      | exact td_is hS ht
      | exact td_is1 hS ht
      | refine td_rd hS ht ?_
      | exact tin (by omega)
      | refine And.intro ?_ ?_
      | intro _
    all_goals clear key ih h e1 e2 e3 tin
    all_goals try (simp only [eq_comm (a := mem (t + 1) j)] at *)
    all_goals first | decide | (simp only [sg, sg1, rem, eq_comm (a := mem (t + 1) j)]; simp [*, Int32.add_assoc]; done) | (simp only [sg, sg1, rem, eq_comm (a := mem (t + 1) j)]; simp_all [Int32.add_assoc]; done)
theorem s_padded {a b c : Int32} (h : K (some (.int (pdd a (a + b) c))) sh rf mem nx) : ab_Cx l G ol (d + 1) mTr_padded [.int a, .int b, .int c] sh rf mem nx K := by
  unfold pdd at h
  refine e_mTr_padded ⟨fun h1 => ⟨trivial, ?_⟩, fun h1 => ⟨fun h2 => ⟨trivial, ?_⟩, fun h2 => ⟨trivial, ?_⟩⟩⟩
  · rw [if_neg (fun q => absurd h1 (Int32.not_lt.mpr q.1))] at h; exact h
  · rw [if_neg (fun q => absurd q.2 (Int32.not_lt.mpr h2))] at h; exact h
  · rw [if_pos ⟨Int32.not_lt.mp h1, Int32.not_le.mp h2⟩] at h; exact h
theorem s_wants (hS : St sh rf nx) {t : Nat} (ht : Td t) {c line : Int32} (h : K (some (.int (ask (mem t 0) (mem t 2) (mem t 6) line c))) sh rf mem nx) : ab_Cx l G ol (d + 2) mTr_wants [.ref t, .int c, .int line] sh rf mem nx K := by
  unfold ask at h
  refine e_mTr_wants ⟨td_is hS ht, ?_⟩
  refine ⟨fun h1 => ?_, fun h1 => ⟨fun h2 => ?_, fun h2 => ⟨fun h3 => ?_, fun h3 => ⟨fun h4 => ?_, fun h4 => ⟨fun h5 => ?_, fun h5 => ?_⟩⟩⟩⟩⟩
  · rw [if_pos h1] at h; exact ⟨by decide, trivial, h⟩
  · rw [if_neg h1, if_pos h2] at h; exact ⟨td_is hS ht, by decide, s_padded ⟨_, rfl, trivial, h⟩⟩
  · rw [if_neg h1, if_neg h2, if_pos h3] at h; exact ⟨by decide, trivial, h⟩
  · rw [if_neg h1, if_neg h2, if_neg h3, if_pos h4] at h
    exact ⟨td_is hS ht, td_is hS ht, by decide, s_min ⟨_, rfl, by decide, s_padded ⟨_, rfl, trivial, h⟩⟩⟩
  · rw [if_neg h1, if_neg h2, if_neg h3, if_neg h4, if_pos h5] at h
    exact ⟨by decide, s_max ⟨_, rfl, trivial, h⟩⟩
  · rw [if_neg h1, if_neg h2, if_neg h3, if_neg h4, if_neg h5] at h
    exact ⟨trivial, h⟩
theorem s_worth (hS : St sh rf nx) {t : Nat} (ht : Td t) (h : K (some (.int (wth (mem t 0) (mem t 1) (mem t 2)))) sh rf mem nx) : ab_Cx l G ol (d + 1) mTr_worth [.ref t] sh rf mem nx K := by
  unfold wth at h
  refine e_mTr_worth ⟨td_is hS ht, ?_⟩
  refine ⟨fun h1 => ?_, fun h1 => ⟨fun h2 => ?_, fun h2 => ⟨fun h3 => ?_, fun h3 => ⟨fun h4 => ?_, fun h4 => ⟨fun h5 => ?_, fun h5 => ?_⟩⟩⟩⟩⟩
  · rw [if_pos h1] at h; exact ⟨td_is hS ht, trivial, h⟩
  · rw [if_neg h1, if_pos h2] at h; exact ⟨td_is hS ht, trivial, h⟩
  · rw [if_neg h1, if_neg h2, if_pos h3] at h; exact ⟨td_is hS ht, trivial, h⟩
  · rw [if_neg h1, if_neg h2, if_neg h3, if_pos h4] at h; exact ⟨td_is hS ht, trivial, h⟩
  · rw [if_neg h1, if_neg h2, if_neg h3, if_neg h4, if_pos h5] at h; exact ⟨trivial, h⟩
  · rw [if_neg h1, if_neg h2, if_neg h3, if_neg h4, if_neg h5] at h; exact ⟨td_is hS ht, trivial, h⟩
/-- what changes when one asks on a day that costs c -/
def asksMem (mem : ab_N) (t : Nat) (c line : Int32) : ab_N :=
  let a := ask (mem t 0) (mem t 2) (mem t 6) line c
  fun b => if b = t then (fun k => if k = 8 then a - c else if k = 3 then mem t 3 + c else if k = 4 then mem t 4 + a else mem t k)
    else if b = t + 1 then (fun k => if k = 0 then a else if k < 6 then mem (t + 1) (k - 1) else mem (t + 1) k) else mem b
set_option maxHeartbeats 2000000 in
theorem s_asksOn (hS : St sh rf nx) {t : Nat} (ht : Td t) {c line : Int32} (h : K none sh rf (asksMem mem t c line) nx) : ab_Cx l G ol (d + 3) mTr_asksOn [.ref t, .int c, .int line] sh rf mem nx K := by
  have i1 := td_is hS ht
  have i2 := td_is1 hS ht
  have i3 := td_sh1 hS ht
  refine e_mTr_asksOn ⟨i1, s_wants hS ht ⟨_, rfl, i1, i1, i1, i1, i1, i1, td_rd hS ht ⟨i1, td_rd hS ht ⟨⟨i2, i2, by decide, by decide, by decide, by rw [i3]; decide, by rw [i3]; decide⟩, i1, td_rd hS ht ⟨i2, td_in hS ht (pk_in 0 6 (by decide)), ?_⟩⟩⟩⟩⟩
  have e : ∀ m2, m2 = asksMem mem t c line → K none sh rf m2 nx := fun m2 q => q ▸ h
  refine e _ ?_
  funext b k
  by_cases hb : b = t
  · subst hb
    simp only [asksMem, if_pos rfl]
    by_cases h3 : k = 3
    · subst h3; simp [ab_w, upd, ab_row]
    · by_cases h4 : k = 4
      · subst h4; simp [ab_w, upd, ab_row]
      · by_cases h8 : k = 8
        · subst h8; simp [ab_w, upd, ab_row]
        · simp [ab_w, upd, ab_row, h3, h4, h8]
  · by_cases hb1 : b = t + 1
    · subst hb1
      simp only [asksMem, if_neg hb, if_pos rfl]
      by_cases h0 : k = 0
      · subst h0; simp [ab_w, upd, ab_row]
      · by_cases h6 : k < 6
        · have q1 : (1 : Int32).toNatClampNeg ≤ k ∧ k < (1 : Int32).toNatClampNeg + (5 : Int32).toNatClampNeg := by
            have a1 : (1 : Int32).toNatClampNeg = 1 := by decide
            have a2 : (5 : Int32).toNatClampNeg = 5 := by decide
            omega
          have a0 : (0 : Int32).toNatClampNeg = 0 := by decide
          have a1 : (1 : Int32).toNatClampNeg = 1 := by decide
          simp [ab_w, upd, ab_row, h0, h6, a0, a1, va_cpy]
        · have a0 : (0 : Int32).toNatClampNeg = 0 := by decide
          have a1 : (1 : Int32).toNatClampNeg = 1 := by decide
          have a2 : (5 : Int32).toNatClampNeg = 5 := by decide
          simp [ab_w, upd, ab_row, h0, h6, a0, a1, a2, va_cpy]
    · simp [asksMem, hb, hb1, ab_w, ab_row]
/-- what changes when one is looked at -/
def caughtMem (mem : ab_N) (t : Nat) : ab_N :=
  if mem t 10 = 0 ∧ 0 < mem t 8 then (fun b => if b = t then (fun k => if k = 10 then 1 else if k = 5 then mem t 5 + 1 else if k = 4 then mem t 4 - mem t 8 else if k = 2 then mem t 2 / 2 else if k = 6 then -1 else mem t k) else mem b)
  else ab_w mem t 10 1
set_option maxHeartbeats 2000000 in
theorem s_isCaught (hS : St sh rf nx) {t : Nat} (ht : Td t) (h : K (some (.int (if mem t 10 = 0 ∧ 0 < mem t 8 then 1 else 0))) sh rf (caughtMem mem t) nx) : ab_Cx l G ol (d + 1) mTr_isCaught [.ref t] sh rf mem nx K := by
  have i1 := td_is hS ht
  have e8 : ab_w mem t 10 1 t 8 = mem t 8 := by simp [ab_w, upd]
  refine e_mTr_isCaught ⟨i1, fun h1 => ⟨i1, Or.inr rfl, fun _ => ⟨Or.inl rfl, ?_⟩, fun q => absurd rfl q⟩, fun h1 => ⟨i1, Or.inr rfl, fun q => absurd q (by decide), fun _ => ⟨i1, fun h2 => ?_, fun h2 => ⟨Or.inl rfl, ?_⟩⟩⟩⟩
  · have hc : ¬ (mem t 10 = 0 ∧ 0 < mem t 8) := fun q => h1 q.1
    rw [if_neg hc] at h
    simp only [caughtMem, if_neg hc] at h
    exact h
  · have h2 : 0 < mem t 8 := by rw [← e8]; exact h2
    have hc : mem t 10 = 0 ∧ 0 < mem t 8 := ⟨h1, h2⟩
    rw [if_pos hc] at h
    simp only [caughtMem, if_pos hc] at h
    refine ⟨i1, i1, i1, i1, i1, i1, by decide, i1, i1, Or.inr rfl, ?_⟩
    have e : ∀ m2, m2 = (fun b => if b = t then (fun k => if k = 10 then 1 else if k = 5 then mem t 5 + 1 else if k = 4 then mem t 4 - mem t 8 else if k = 2 then mem t 2 / 2 else if k = 6 then -1 else mem t k) else mem b) → K (some (.int 1)) sh rf m2 nx := fun m2 q => q ▸ h
    refine e _ ?_
    funext b k
    by_cases hb : b = t
    · subst hb
      by_cases a10 : k = 10
      · subst a10; simp [ab_w, upd]
      · by_cases a5 : k = 5
        · subst a5; simp [ab_w, upd]
        · by_cases a4 : k = 4
          · subst a4; simp [ab_w, upd]
          · by_cases a2 : k = 2
            · subst a2; simp [ab_w, upd]
            · by_cases a6 : k = 6
              · subst a6; simp [ab_w, upd]
              · simp [ab_w, upd, a10, a5, a4, a2, a6]
    · simp [ab_w, hb]
  · have hc : ¬ (mem t 10 = 0 ∧ 0 < mem t 8) := fun q => h2 (by rw [e8]; exact q.2)
    rw [if_neg hc] at h
    simp only [caughtMem, if_neg hc] at h
    exact h
end XT
