/-! THE CLASS: what else a world does -/
def smF (f : Row) (k : Nat) : Nat → Int32
  | 0 => 0
  | n + 1 => smF f k n + f (tI n k)
def padF (f : Row) (N : Nat) : Int32 := smF f 4 N - smF f 3 N
/-- signs are small -/
theorem sg1_nI (cl : Row) (line : Int32) (j : Nat) : ∃ k, k ≤ 9 ∧ sg1 cl line j = nI k := by
  unfold sg1
  by_cases h0 : cl j ≤ 0
  · exact ⟨0, by omega, by rw [if_pos h0]; rfl⟩
  · rw [if_neg h0]
    have hA : ∃ a, a ≤ 2 ∧ (if rem (cl j) 10 = 0 then (2 : Int32) else if rem (cl j) 10 = 5 then 1 else 0) = nI a := by
      by_cases h1 : rem (cl j) 10 = 0
      · exact ⟨2, by omega, by rw [if_pos h1]; rfl⟩
      · rw [if_neg h1]
        by_cases h2 : rem (cl j) 10 = 5
        · exact ⟨1, by omega, by rw [if_pos h2]; rfl⟩
        · exact ⟨0, by omega, by rw [if_neg h2]; rfl⟩
    have hB : ∃ a, a ≤ 4 ∧ (if cl j = line - 1 then (4 : Int32) else 0) = nI a := by
      by_cases h1 : cl j = line - 1
      · exact ⟨4, by omega, by rw [if_pos h1]; rfl⟩
      · exact ⟨0, by omega, by rw [if_neg h1]; rfl⟩
    have hC : ∃ a, a ≤ 3 ∧ (if j < 5 ∧ cl j = cl (j + 1) then (3 : Int32) else 0) = nI a := by
      by_cases h1 : j < 5 ∧ cl j = cl (j + 1)
      · exact ⟨3, by omega, by rw [if_pos h1]; rfl⟩
      · exact ⟨0, by omega, by rw [if_neg h1]; rfl⟩
    obtain ⟨a, ha, ea⟩ := hA
    obtain ⟨b, hb, eb⟩ := hB
    obtain ⟨c, hc, ec⟩ := hC
    exact ⟨a + b + c, by omega, by rw [ea, eb, ec, nI_add, nI_add]⟩
theorem sg_nI (cl : Row) (line : Int32) : ∀ n, ∃ k, k ≤ 9 * n ∧ sg cl line n = nI k
  | 0 => ⟨0, by omega, rfl⟩
  | n + 1 => by
    obtain ⟨a, ha, ea⟩ := sg_nI cl line n
    obtain ⟨b, hb, eb⟩ := sg1_nI cl line n
    exact ⟨a + b, by omega, by rw [sg, ea, eb, nI_add]⟩
theorem sgf_nI (f : Row) (i : Nat) : ∃ k, k ≤ 54 ∧ sgf f i = nI k := sg_nI _ _ 6
/-- one stands alone: it has more signs than any other; the only one: if it has signs -/
def alone (f : Row) (N t : Nat) : Prop := if N = 1 then 0 < sgf f t else ∀ i, i < N → i ≠ t → sgf f i < sgf f t
section XR
variable {l : Launch} {G : ab_G} {ol : ab_Ol} {d : Nat} {sh : ab_S} {rf : ab_R} {nx : Nat} {K : ab_K} {mem : ab_N}
theorem RW.sg {w N i : Nat} {f : Row} (hR : RW mem w N f) (hi : i < N) : sg (mem (w + 3 + 2 * i + 1)) (mem w 3) 6 = sgf f i := by
  refine sg_congr hR.1.2.2.2.2.1 (fun j hj => ?_) 6 (Nat.le_refl _)
  rw [show w + 3 + 2 * i + 1 = w + 4 + 2 * i by omega]
  exact hR.2.2 i j hi hj
theorem s_spentOfAll (hS : St sh rf nx) {w N : Nat} {f : Row} (hw : Wd w) (hN : N ≤ 8) (hR : RW mem w N f) (h : K (some (.int (smF f 3 N))) sh rf mem nx) : ab_Cx l G ol (d + 1) mWo_spentOfAll [.ref w] sh rf mem nx K := by
  suffices loop : ∀ n i, i + n = N → ab_Go l G ol d mWo_spentOfAll (ab_mc mWo_spentOfAll) (ab_ms mWo_spentOfAll) (fun r sh rf mem nx _ _ => K r sh rf mem nx) 4 [.ref w, .int (smF f 3 i), .int (nI i)] [] sh rf mem nx 0 0 from e_mWo_spentOfAll (loop N 0 (by omega))
  intro n
  induction n with
  | zero =>
    intro i hi
    have : i = N := by omega
    subst this
    exact h_mWo_spentOfAll_4 ⟨wd_is hS hw, fun _ => ⟨trivial, h⟩, fun q => absurd (by rw [hR.1.2.1]; exact Int32.le_refl _) q⟩
  | succ n ih =>
    intro i hi
    have hiN : i < N := by omega
    have hi8 : i < 8 := by omega
    refine h_mWo_spentOfAll_4 ⟨wd_is hS hw, fun q => absurd q (by rw [hR.1.2.1]; exact nI_ge hiN (by omega)), fun _ => ⟨wd_is hS hw, wd_acc hS hw hi8 ⟨td_is hS (wd_td hw hi8), ?_⟩⟩⟩
    rw [hR.2.1 i 3 hiN (by decide), nI_1]
    exact ih (i + 1) (by omega)
theorem s_claimedOfAll (hS : St sh rf nx) {w N : Nat} {f : Row} (hw : Wd w) (hN : N ≤ 8) (hR : RW mem w N f) (h : K (some (.int (smF f 4 N))) sh rf mem nx) : ab_Cx l G ol (d + 1) mWo_claimedOfAll [.ref w] sh rf mem nx K := by
  suffices loop : ∀ n i, i + n = N → ab_Go l G ol d mWo_claimedOfAll (ab_mc mWo_claimedOfAll) (ab_ms mWo_claimedOfAll) (fun r sh rf mem nx _ _ => K r sh rf mem nx) 4 [.ref w, .int (smF f 4 i), .int (nI i)] [] sh rf mem nx 0 0 from e_mWo_claimedOfAll (loop N 0 (by omega))
  intro n
  induction n with
  | zero =>
    intro i hi
    have : i = N := by omega
    subst this
    exact h_mWo_claimedOfAll_4 ⟨wd_is hS hw, fun _ => ⟨trivial, h⟩, fun q => absurd (by rw [hR.1.2.1]; exact Int32.le_refl _) q⟩
  | succ n ih =>
    intro i hi
    have hiN : i < N := by omega
    have hi8 : i < 8 := by omega
    refine h_mWo_claimedOfAll_4 ⟨wd_is hS hw, fun q => absurd q (by rw [hR.1.2.1]; exact nI_ge hiN (by omega)), fun _ => ⟨wd_is hS hw, wd_acc hS hw hi8 ⟨td_is hS (wd_td hw hi8), ?_⟩⟩⟩
    rw [hR.2.1 i 4 hiN (by decide), nI_1]
    exact ih (i + 1) (by omega)
theorem s_caughtOfAll (hS : St sh rf nx) {w N : Nat} {f : Row} (hw : Wd w) (hN : N ≤ 8) (hR : RW mem w N f) (h : K (some (.int (smF f 5 N))) sh rf mem nx) : ab_Cx l G ol (d + 1) mWo_caughtOfAll [.ref w] sh rf mem nx K := by
  suffices loop : ∀ n i, i + n = N → ab_Go l G ol d mWo_caughtOfAll (ab_mc mWo_caughtOfAll) (ab_ms mWo_caughtOfAll) (fun r sh rf mem nx _ _ => K r sh rf mem nx) 4 [.ref w, .int (smF f 5 i), .int (nI i)] [] sh rf mem nx 0 0 from e_mWo_caughtOfAll (loop N 0 (by omega))
  intro n
  induction n with
  | zero =>
    intro i hi
    have : i = N := by omega
    subst this
    exact h_mWo_caughtOfAll_4 ⟨wd_is hS hw, fun _ => ⟨trivial, h⟩, fun q => absurd (by rw [hR.1.2.1]; exact Int32.le_refl _) q⟩
  | succ n ih =>
    intro i hi
    have hiN : i < N := by omega
    have hi8 : i < 8 := by omega
    refine h_mWo_caughtOfAll_4 ⟨wd_is hS hw, fun q => absurd q (by rw [hR.1.2.1]; exact nI_ge hiN (by omega)), fun _ => ⟨wd_is hS hw, wd_acc hS hw hi8 ⟨td_is hS (wd_td hw hi8), ?_⟩⟩⟩
    rw [hR.2.1 i 5 hiN (by decide), nI_1]
    exact ih (i + 1) (by omega)
theorem s_pad (hS : St sh rf nx) {w N : Nat} {f : Row} (hw : Wd w) (hN : N ≤ 8) (hR : RW mem w N f) (h : K (some (.int (padF f N))) sh rf mem nx) : ab_Cx l G ol (d + 2) mWo_pad [.ref w] sh rf mem nx K :=
  e_mWo_pad ⟨wd_is hS hw, s_claimedOfAll hS hw hN hR ⟨_, rfl, wd_is hS hw, s_spentOfAll hS hw hN hR ⟨_, rfl, trivial, h⟩⟩⟩
set_option maxHeartbeats 2000000 in
theorem s_mostSigns (hS : St sh rf nx) {w N : Nat} {f : Row} (hw : Wd w) (hN : N ≤ 8) (h0 : 0 < N) (hR : RW mem w N f) (h : K (some (.int (bI (bst (sgf f) noB N)))) sh rf mem nx) : ab_Cx l G ol (d + 2) mWo_mostSigns [.ref w] sh rf mem nx K := by
  suffices loop : ∀ n i, i + n = N → ∀ (b m : Int32), (i = 0 → b = 0 ∧ m = -1) → (0 < i → ∃ t, t < i ∧ bst (sgf f) noB i = some t ∧ b = nI t ∧ m = sgf f t) → ∀ u4, ab_Go l G ol (d + 1) mWo_mostSigns (ab_mc mWo_mostSigns) (ab_ms mWo_mostSigns) (fun r sh rf mem nx _ _ => K r sh rf mem nx) 6 [.ref w, .int b, .int m, .int (nI i), u4] [] sh rf mem nx 0 0 from
    e_mWo_mostSigns (loop N 0 (by omega) 0 (-1) (fun _ => ⟨rfl, rfl⟩) (fun q => by omega) _)
  intro n
  induction n with
  | zero =>
    intro i hi b m hz hp u4
    have : i = N := by omega
    subst this
    obtain ⟨t, _, ht, hb, _⟩ := hp h0
    rw [ht] at h
    refine h_mWo_mostSigns_6 ⟨wd_is hS hw, fun _ => ⟨trivial, ?_⟩, fun q => absurd (by rw [hR.1.2.1]; exact Int32.le_refl _) q⟩
    rw [hb]
    exact h
  | succ n ih =>
    intro i hi b m hz hp u4
    have hiN : i < N := by omega
    have hi8 : i < 8 := by omega
    refine h_mWo_mostSigns_6 ⟨wd_is hS hw, fun q => absurd q (by rw [hR.1.2.1]; exact nI_ge hiN (by omega)), fun _ => ⟨wd_is hS hw, wd_acc hS hw hi8 ⟨wd_is hS hw, td_is hS (wd_td hw hi8), s_signsAt hS (wd_td hw hi8) ⟨_, rfl, ?_⟩⟩⟩⟩
    rw [hR.sg hiN]
    rcases Nat.eq_zero_or_pos i with g | g
    · subst g
      obtain ⟨rfl, rfl⟩ := hz rfl
      obtain ⟨k, hk, ek⟩ := sgf_nI f 0
      refine ⟨fun q => absurd q ?_, fun _ => ?_⟩
      · rw [ek]
        have : ∀ k, k ≤ 54 → ¬ nI k ≤ (-1 : Int32) := by decide +kernel
        exact this k hk
      · rw [nI_1]
        exact ih 1 (by omega) _ _ (fun q => by omega) (fun _ => ⟨0, by omega, rfl, rfl, rfl⟩) _
    · obtain ⟨t, hti, ht, rfl, rfl⟩ := hp g
      refine ⟨fun q => ?_, fun q => ?_⟩
      · rw [nI_1]
        refine ih (i + 1) (by omega) _ _ (fun q => by omega) (fun _ => ⟨t, by omega, ?_, rfl, rfl⟩) _
        rw [bst, if_neg (fun z => by cases z), ht]
        simp only [if_pos q]
      · rw [nI_1]
        refine ih (i + 1) (by omega) _ _ (fun q => by omega) (fun _ => ⟨i, by omega, ?_, rfl, rfl⟩) _
        rw [bst, if_neg (fun z => by cases z), ht]
        simp only [if_neg q]
set_option maxHeartbeats 2000000 in
theorem s_standsAlone (hS : St sh rf nx) {w N t : Nat} {f : Row} (hw : Wd w) (hN : N ≤ 8) (ht : t < N) (hR : RW mem w N f) (h1 : alone f N t → K (some (.int 1)) sh rf mem nx) (h2 : ¬ alone f N t → K (some (.int 0)) sh rf mem nx) : ab_Cx l G ol (d + 2) mWo_standsAlone [.ref w, .int (nI t)] sh rf mem nx K := by
  refine e_mWo_standsAlone ⟨wd_is hS hw, wd_acc hS hw (i := t) (by omega) ⟨wd_is hS hw, td_is hS (wd_td hw (by omega)), s_signsAt hS (wd_td hw (by omega)) ⟨_, rfl, wd_is hS hw, ?_⟩⟩⟩
  rw [hR.sg ht, hR.1.2.1]
  refine ⟨fun q => ?_, fun q => ⟨fun q2 => ⟨Or.inl rfl, h2 ?_⟩, fun q2 => ⟨Or.inr rfl, h1 ?_⟩⟩⟩
  · have hN1 : ¬ N = 1 := fun e => q (by rw [e]; rfl)
    suffices loop : ∀ n i, i + n = N → (∀ j, j < i → j ≠ t → sgf f j < sgf f t) → ab_Go l G ol (d + 1) mWo_standsAlone (ab_mc mWo_standsAlone) (ab_ms mWo_standsAlone) (fun r sh rf mem nx _ _ => K r sh rf mem nx) 34 [.ref w, .int (nI t), .int (sgf f t), .int (nI i)] [] sh rf mem nx 0 0 from loop N 0 (by omega) (fun j q => by omega)
    intro n
    induction n with
    | zero =>
      intro i hi hj
      have : i = N := by omega
      subst this
      exact h_mWo_standsAlone_34 ⟨wd_is hS hw, fun _ => ⟨Or.inr rfl, h1 (by unfold alone; rw [if_neg hN1]; exact hj)⟩, fun q => absurd (by rw [hR.1.2.1]; exact Int32.le_refl _) q⟩
    | succ n ih =>
      intro i hi hj
      have hiN : i < N := by omega
      have hi8 : i < 8 := by omega
      refine h_mWo_standsAlone_34 ⟨wd_is hS hw, fun q => absurd q (by rw [hR.1.2.1]; exact nI_ge hiN (by omega)), fun _ => ⟨fun q => ?_, fun q => ⟨wd_is hS hw, wd_acc hS hw hi8 ⟨wd_is hS hw, td_is hS (wd_td hw hi8), s_signsAt hS (wd_td hw hi8) ⟨_, rfl, ?_⟩⟩⟩⟩⟩
      · rw [nI_1]
        have e : i = t := (nI_eq (by omega) (by omega)).mp q
        refine ih (i + 1) (by omega) (fun j hj1 hj2 => hj j (by omega) hj2)
      · rw [hR.sg hiN]
        have hit : i ≠ t := fun e => q (by rw [e])
        refine ⟨fun q2 => ?_, fun q2 => ⟨Or.inl rfl, h2 ?_⟩⟩
        · rw [nI_1]
          refine ih (i + 1) (by omega) (fun j hj1 hj2 => ?_)
          by_cases hji : j = i
          · subst hji; exact q2
          · exact hj j (by omega) hj2
        · unfold alone; rw [if_neg hN1]
          intro hall
          exact q2 (hall i hiN hit)
  · have hN1 : N = 1 := (nI_eq (by omega) (by omega)).mp (q.trans (rfl : (1 : Int32) = nI 1))
    unfold alone; rw [if_pos hN1]
    exact Int32.not_lt.mpr q2
  · have hN1 : N = 1 := (nI_eq (by omega) (by omega)).mp (q.trans (rfl : (1 : Int32) = nI 1))
    unfold alone; rw [if_pos hN1]
    exact Int32.not_le.mp q2
end XR
