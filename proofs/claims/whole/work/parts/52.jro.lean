/-! BOTH: calls that only tell -/
theorem dfS_congr {ct : Ct} {N t : Nat} {g pl pl' : Row} : ∀ z, (∀ k, k < z → pl k = pl' k) → dfS ct N t g pl z = dfS ct N t g pl' z
  | 0, _ => rfl
  | z + 1, h => by unfold dfS; rw [dfS_congr z (fun k hk => h k (by omega)), h z (by omega)]
theorem poF_congr {f pl pl' : Row} : ∀ z, (∀ k, k < z → pl k = pl' k) → poF f pl z = poF f pl' z
  | 0, _ => rfl
  | z + 1, h => by unfold poF po1; rw [poF_congr z (fun k hk => h k (by omega)), h z (by omega)]
theorem rdG_congr {f pl pl' : Row} {N : Nat} : ∀ z k, (∀ x, x < k + z → pl x = pl' x) → rdG f N pl k z = rdG f N pl' k z
  | 0, _, _ => rfl
  | z + 1, k, h => by unfold rdG; rw [rdG_congr z (k + 1) (fun x hx => h x (by omega)), h k (by omega)]
section JR
variable {l : Launch} {G : ab_G} {ol : ab_Ol} {sh : ab_S} {rf : ab_R} {mem : ab_N} {nx : Nat}
theorem J_told (hI : Inv sh rf mem nx) {t w : Int32} : JC l G ol mX_told mM_told [.int t, .int w] sh rf mem nx := by
  have hI' := hI
  obtain ⟨hS, N, D, T, hI0, hx⟩ := hI
  have hI0' := hI0
  obtain ⟨⟨hN, hD, hR, hW, hTx, h10, hC, hz⟩, hImg, hTap, hSh, hSl, hWa, hKs⟩ := hI0
  intro K h
  refine x_told hS hN hR (fun q => h _ mem fun K2 h2 => ?_) (fun i hi e => h _ mem fun K2 h2 => ?_)
  · exact m_told hS hN rfl hW.1 (fun _ => h2 mem hI') (fun i hi e => absurd (by rw [e]; exact ix_in (by omega) hi) q)
  · subst e
    exact m_told hS hN rfl hW.1 (fun q => absurd (ix_in (by omega) hi) q) (fun j hj e => by rw [← ixe e (by omega) (by omega)]; exact h2 mem hI')
theorem J_claim (hI : Inv sh rf mem nx) {t w : Int32} : JC l G ol mX_claim mM_claim [.int t, .int w] sh rf mem nx := by
  have hI' := hI
  obtain ⟨hS, N, D, T, hI0, hx⟩ := hI
  have hI0' := hI0
  obtain ⟨⟨hN, hD, hR, hW, hTx, h10, hC, hz⟩, hImg, hTap, hSh, hSl, hWa, hKs⟩ := hI0
  intro K h
  refine x_claim hS hN hR (fun q => h _ mem fun K2 h2 => ?_) (fun i j hi hj e1 e2 => h _ mem fun K2 h2 => ?_)
  · exact m_claim hS hN rfl hW.1 (fun _ => h2 mem hI') (fun i j hi hj e1 e2 => absurd ⟨by rw [e1]; exact ix_in (by omega) hi, by rw [e2]; exact ⟨nI_pos' (by omega), nI_le (b := 5) (by omega) (by decide)⟩⟩ q)
  · subst e1; subst e2
    exact m_claim hS hN rfl hW.1 (fun q => absurd ⟨ix_in (by omega) hi, nI_pos' (by omega), nI_le (b := 5) (by omega) (by decide)⟩ q) (fun i' j' hi' hj' e1 e2 => by rw [← ixe e1 (by omega) (by omega), ← ixe e2 (by omega) (by omega)]; exact h2 mem hI')
theorem J_costs (hI : Inv sh rf mem nx) {t w : Int32} : JC l G ol mX_costs mM_costs [.int t, .int w] sh rf mem nx := by
  have hI' := hI
  obtain ⟨hS, N, D, T, hI0, hx⟩ := hI
  have hI0' := hI0
  obtain ⟨⟨hN, hD, hR, hW, hTx, h10, hC, hz⟩, hImg, hTap, hSh, hSl, hWa, hKs⟩ := hI0
  intro K h
  refine x_costs hS hN hR (lw_of hTx hC hx (k := 0) (by decide)) (fun q => h _ mem fun K2 h2 => ?_) (fun i j hi hj e1 e2 mem1 F => h _ mem1 fun K2 h2 => ?_)
  · exact m_costs hS hN rfl hW hTx (fun _ => h2 mem hI') (fun i j hi hj e1 e2 => absurd ⟨by rw [e1]; exact ix_in (by omega) hi, by rw [e2]; exact ⟨nI_pos' (by omega), nI_le (b := 19) (by omega) (by decide)⟩⟩ q)
  · subst e1; subst e2
    exact m_costs (f := mem 102) hS hN (F 102 (by decide)) hW hTx (fun q => absurd ⟨ix_in (by omega) hi, nI_pos' (by omega), nI_le (b := 19) (by omega) (by decide)⟩ q) (fun i' j' hi' hj' e1 e2 mem2 F2 => by rw [← ixe e1 (by omega) (by omega), ← ixe e2 (by omega) (by omega)]; exact h2 mem2 (hI'.ro ((RO.s3 F).trans (RO.S F2))))
theorem J_asksFor (hI : Inv sh rf mem nx) {t w : Int32} : JC l G ol mX_asksFor mM_asksFor [.int t, .int w] sh rf mem nx := by
  have hI' := hI
  obtain ⟨hS, N, D, T, hI0, hx⟩ := hI
  have hI0' := hI0
  obtain ⟨⟨hN, hD, hR, hW, hTx, h10, hC, hz⟩, hImg, hTap, hSh, hSl, hWa, hKs⟩ := hI0
  intro K h
  refine x_asksFor hS hN hR (fun q => h _ mem fun K2 h2 => ?_) (fun i j hi hj e1 e2 => h _ mem fun K2 h2 => ?_)
  · exact m_asksFor hS hN rfl (by omega) hW (fun _ => h2 mem hI') (fun i j hi hj e1 e2 => absurd ⟨by rw [e1]; exact ix_in (by omega) hi, by rw [e2]; exact ⟨nI_pos' (by omega), nI_le (b := 999) (by omega) (by decide)⟩⟩ q)
  · subst e1; subst e2
    exact m_asksFor hS hN rfl (by omega) hW (fun q => absurd ⟨ix_in (by omega) hi, nI_pos' (by omega), nI_le (b := 999) (by omega) (by decide)⟩ q) (fun i' j' hi' hj' e1 e2 => by rw [← ixe e1 (by omega) (by omega), ← ixe e2 (by omega) (by omega)]; exact h2 mem hI')
theorem J_as (hI : Inv sh rf mem nx) (hA : KA ol) {t w : Int32} : JC l G ol mX_as mM_as [.int t, .int w] sh rf mem nx := by
  have hI' := hI
  obtain ⟨hS, N, D, T, hI0, hx⟩ := hI
  have hI0' := hI0
  obtain ⟨⟨hN, hD, hR, hW, hTx, h10, hC, hz⟩, hImg, hTap, hSh, hSl, hWa, hKs⟩ := hI0
  intro K h
  refine x_as hS hN hR hA (fun i hi => (hW.2.2.2.2.2 i hi).1) (fun q => h _ mem fun K2 h2 => ?_) (fun i hi hw e1 => h _ mem fun K2 h2 => ?_)
  · exact m_as hS hN rfl hW.1 (fun _ => h2 mem hI') (fun i hi hw e1 => absurd ⟨by rw [e1]; exact ix_in (by omega) hi, hw⟩ q)
  · subst e1
    exact m_as hS hN rfl hW.1 (fun q => absurd ⟨ix_in (by omega) hi, hw⟩ q) (fun i' hi' hw' e1 => by rw [← ixe e1 (by omega) (by omega)]; exact h2 mem hI')
theorem J_coins (hI : Inv sh rf mem nx) {w : Int32} : JC l G ol mX_coins mM_coins [.int w] sh rf mem nx := by
  have hI' := hI
  obtain ⟨hS, N, D, T, hI0, hx⟩ := hI
  have hI0' := hI0
  obtain ⟨⟨hN, hD, hR, hW, hTx, h10, hC, hz⟩, hImg, hTap, hSh, hSl, hWa, hKs⟩ := hI0
  intro K h
  exact x_coins hS hN hR (h _ mem fun K2 h2 => m_coins hS hN rfl hW.1 hKs.1 fun mem2 F2 => h2 mem2 (hI'.ro (RO.S F2)))
theorem TC.of {mem mem1 : ab_N} {N D T : Nat} (hI : Inv0 mem N D T) (hF : RO mem mem1) : TC mem1 N D T (mem 102) := by
  have h1 := hI.ro hF
  obtain ⟨⟨hN, hD, hR, hW, hTx, h10, hC, hz⟩, _⟩ := hI
  exact ⟨hN, hF 102 (by unfold SC; omega), h1.2.2.2.2.2.2.1, hW, hD, hTx⟩
theorem J_behind (hI : Inv sh rf mem nx) {n w : Int32} : JC l G ol mX_behind mM_behind [.int n, .int w] sh rf mem nx := by
  have hI' := hI
  obtain ⟨hS, N, D, T, hI0, hx⟩ := hI
  have hI0' := hI0
  obtain ⟨⟨hN, hD, hR, hW, hTx, h10, hC, hz⟩, hImg, hTap, hSh, hSl, hWa, hKs⟩ := hI0
  intro K h
  refine x_behind hS hN hR hW hD (lw_of hTx hC hx (k := 0) (by decide)) (fun q => h _ mem fun K2 h2 => ?_) (fun k j hk hj e1 e2 mem1 F => h _ mem1 fun K2 h2 => ?_)
  · exact m_behind hS (TC.of hI0' RO.rfl) (fun _ => h2 mem hI') (fun k j hk hj e1 e2 => absurd ⟨by rw [e1]; exact ⟨nI_pos' (by omega), nI_le (b := 100) (by omega) (by decide)⟩, by rw [e2]; exact ⟨nI_pos' (by omega), nI_le hj (by omega)⟩⟩ q)
  · subst e1; subst e2
    exact m_behind hS (TC.of hI0' (RO.T F)) (fun q => absurd ⟨⟨nI_pos' (by omega), nI_le (b := 100) (by omega) (by decide)⟩, nI_pos' (by omega), nI_le hj (by omega)⟩ q) (fun k' j' hk' hj' e1 e2 mem2 F2 => by rw [← ixe e1 (by omega) (by omega)]; exact h2 mem2 (hI'.ro ((RO.T F).trans (RO.S F2))))
theorem J_bestLine (hI : Inv sh rf mem nx) {n w : Int32} : JC l G ol mX_bestLine mM_bestLine [.int n, .int w] sh rf mem nx := by
  have hI' := hI
  obtain ⟨hS, N, D, T, hI0, hx⟩ := hI
  have hI0' := hI0
  obtain ⟨⟨hN, hD, hR, hW, hTx, h10, hC, hz⟩, hImg, hTap, hSh, hSl, hWa, hKs⟩ := hI0
  intro K h
  refine x_bestLine hS hN hR hW hD (lw_of hTx hC hx (k := 0) (by decide)) (fun q => h _ mem fun K2 h2 => ?_) (fun k k1 hk e1 hw mem1 F => h _ mem1 fun K2 h2 => ?_)
  · exact m_bestLine hS (TC.of hI0' RO.rfl) (fun _ => h2 mem hI') (fun k k1 hk e1 hw => absurd ⟨by rw [e1]; exact ⟨nI_le (a := 1) k1 (by omega), nI_le (b := 30) (by omega) (by decide)⟩, hw⟩ q)
  · subst e1
    exact m_bestLine hS (TC.of hI0' (RO.T F)) (fun q => absurd ⟨⟨nI_le (a := 1) k1 (by omega), nI_le (b := 30) (by omega) (by decide)⟩, hw⟩ q) (fun k' k1' hk' e1 hw mem2 F2 => by rw [← ixe e1 (by omega) (by omega)]; exact h2 mem2 (hI'.ro ((RO.T F).trans (RO.S F2))))
theorem J_bestLooks (hI : Inv sh rf mem nx) {n p w : Int32} : JC l G ol mX_bestLooks mM_bestLooks [.int n, .int p, .int w] sh rf mem nx := by
  have hI' := hI
  obtain ⟨hS, N, D, T, hI0, hx⟩ := hI
  have hI0' := hI0
  obtain ⟨⟨hN, hD, hR, hW, hTx, h10, hC, hz⟩, hImg, hTap, hSh, hSl, hWa, hKs⟩ := hI0
  intro K h
  refine x_bestLooks hS hN hR hW hD (lw_of hTx hC hx (k := 0) (by decide)) (fun q => h _ mem fun K2 h2 => ?_) (fun k k1 hk e1 hp hw mem1 F => h _ mem1 fun K2 h2 => ?_)
  · exact m_bestLooks hS (TC.of hI0' RO.rfl) (fun _ => h2 mem hI') (fun k k1 hk e1 hp hw => absurd ⟨by rw [e1]; exact ⟨nI_le (a := 1) k1 (by omega), nI_le (b := 60) (by omega) (by decide)⟩, hp, hw⟩ q)
  · subst e1
    exact m_bestLooks hS (TC.of hI0' (RO.T F)) (fun q => absurd ⟨⟨nI_le (a := 1) k1 (by omega), nI_le (b := 60) (by omega) (by decide)⟩, hp, hw⟩ q) (fun k' k1' hk' e1 hp hw mem2 F2 => by rw [← ixe e1 (by omega) (by omega)]; exact h2 mem2 (hI'.ro ((RO.T F).trans (RO.S F2))))
theorem J_without (hI : Inv sh rf mem nx) {n w : Int32} : JC l G ol mX_without mM_without [.int n, .int w] sh rf mem nx := by
  have hI' := hI
  obtain ⟨hS, N, D, T, hI0, hx⟩ := hI
  have hI0' := hI0
  obtain ⟨⟨hN, hD, hR, hW, hTx, h10, hC, hz⟩, hImg, hTap, hSh, hSl, hWa, hKs⟩ := hI0
  intro K h
  refine x_without hS hN hR hW hD (lw_of hTx hC hx (k := 0) (by decide)) (fun q => h _ mem fun K2 h2 => ?_) (fun q hZ => h _ mem fun K2 h2 => ?_) (fun k k1 hk e1 hw hN0 mem1 F => h _ mem1 fun K2 h2 => ?_)
  · exact m_without hS (TC.of hI0' RO.rfl) (fun _ => h2 mem hI') (fun y => absurd y q) (fun k k1 hk e1 hw _ => absurd ⟨by rw [e1]; exact ⟨nI_le (a := 1) k1 (by omega), nI_le (b := 60) (by omega) (by decide)⟩, hw⟩ q)
  · exact m_without hS (TC.of hI0' RO.rfl) (fun y => absurd q y) (fun _ _ mem2 F2 => h2 mem2 (hI'.ro (RO.S F2))) (fun k k1 hk e1 hw y => by omega)
  · subst e1
    exact m_without hS (TC.of hI0' (RO.T F)) (fun q => absurd ⟨⟨nI_le (a := 1) k1 (by omega), nI_le (b := 60) (by omega) (by decide)⟩, hw⟩ q) (fun _ y => by omega) (fun k' k1' hk' e1 hw _ mem2 F2 => by rw [← ixe e1 (by omega) (by omega)]; exact h2 mem2 (hI'.ro ((RO.T F).trans (RO.S F2))))
theorem J_flat (hI : Inv sh rf mem nx) {n : Int32} : JC l G ol mX_flat mM_flat [.int n] sh rf mem nx := by
  have hI' := hI
  obtain ⟨hS, N, D, T, hI0, hx⟩ := hI
  have hI0' := hI0
  obtain ⟨⟨hN, hD, hR, hW, hTx, h10, hC, hz⟩, hImg, hTap, hSh, hSl, hWa, hKs⟩ := hI0
  intro K h
  refine x_flat hS hN hR hW hD (lw_of hTx hC hx (k := 0) (by decide)) (fun q => h _ mem fun K2 h2 => ?_) (fun q hZ => h _ mem fun K2 h2 => ?_) (fun k k1 hk e1 hN0 mem1 F => h _ mem1 fun K2 h2 => ?_)
  · exact m_flat hS (TC.of hI0' RO.rfl) (fun _ => h2 mem hI') (fun y => absurd y q) (fun k k1 hk e1 _ => absurd (by rw [e1]; exact ⟨nI_le (a := 1) k1 (by omega), nI_le (b := 60) (by omega) (by decide)⟩) q)
  · exact m_flat hS (TC.of hI0' RO.rfl) (fun y => absurd q y) (fun _ _ => h2 mem hI') (fun k k1 hk e1 y => by omega)
  · subst e1
    exact m_flat hS (TC.of hI0' (RO.T F)) (fun q => absurd ⟨nI_le (a := 1) k1 (by omega), nI_le (b := 60) (by omega) (by decide)⟩ q) (fun _ y => by omega) (fun k' k1' hk' e1 _ mem2 F2 => by rw [← ixe e1 (by omega) (by omega)]; exact h2 mem2 (hI'.ro ((RO.T F).trans (RO.S F2))))
theorem J_standsOut (hI : Inv sh rf mem nx) {t n : Int32} : JC l G ol mX_standsOut mM_standsOut [.int t, .int n] sh rf mem nx := by
  have hI' := hI
  obtain ⟨hS, N, D, T, hI0, hx⟩ := hI
  have hI0' := hI0
  obtain ⟨⟨hN, hD, hR, hW, hTx, h10, hC, hz⟩, hImg, hTap, hSh, hSl, hWa, hKs⟩ := hI0
  intro K h
  refine x_standsOut hS hN hR hW hD (lw_of hTx hC hx (k := 0) (by decide)) (fun q => h _ mem fun K2 h2 => ?_) (fun i k hi k1 hk e1 e2 mem1 F => h _ mem1 fun K2 h2 => ?_)
  · exact m_standsOut hS (TC.of hI0' RO.rfl) (fun _ => h2 mem hI') (fun i k hi k1 hk e1 e2 => absurd ⟨by rw [e1]; exact ix_in (by omega) hi, by rw [e2]; exact ⟨nI_le (a := 1) k1 (by omega), nI_le (b := 60) (by omega) (by decide)⟩⟩ q)
  · subst e1; subst e2
    exact m_standsOut hS (TC.of hI0' (RO.T F)) (fun q => absurd ⟨ix_in (by omega) hi, nI_le (a := 1) k1 (by omega), nI_le (b := 60) (by omega) (by decide)⟩ q) (fun i' k' hi' k1' hk' e1 e2 mem2 F2 => by rw [← ixe e1 (by omega) (by omega), ← ixe e2 (by omega) (by omega)]; exact h2 mem2 (hI'.ro ((RO.T F).trans (RO.S F2))))
theorem J_bentBy (hI : Inv sh rf mem nx) {s t w : Int32} : JC l G ol mX_bentBy mM_bentBy [.int s, .int t, .int w] sh rf mem nx := by
  have hI' := hI
  obtain ⟨hS, N, D, T, hI0, hx⟩ := hI
  have hI0' := hI0
  obtain ⟨⟨hN, hD, hR, hW, hTx, h10, hC, hz⟩, hImg, hTap, hSh, hSl, hWa, hKs⟩ := hI0
  intro K h
  have zz : ∀ i, i < 4 → ∃ z, z ≤ 24 ∧ mem (shC i) 1 = nI z := fun i hi => by
    obtain ⟨z, a, b, _⟩ := (hSh i hi).2.2.1
    exact ⟨z, a, b⟩
  have z1 : ∀ mem1, RO mem mem1 → (∀ i, i < 4 → ∃ z, z ≤ 24 ∧ mem1 118 i = nI z ∧ PB (fun k => mem1 119 (24 * i + k)) z) ∧ (∀ i, i < 4 → mem1 117 i = -1 ∨ 0 ≤ mem1 117 i) := by
    intro mem1 F
    rw [F 117 (by unfold SC; omega), F 118 (by unfold SC; omega), F 119 (by unfold SC; omega)]
    refine ⟨fun i hi => ?_, fun i hi => ?_⟩
    · obtain ⟨z, a, b, c⟩ := (hSh i hi).2.2.1
      exact ⟨z, a, c, fun k hk => (hSh i hi).2.2.2.2 k (by omega)⟩
    · rcases (hSh i hi).2.1 with e | e | e
      · exact Or.inl e
      · exact Or.inr (by rw [e]; decide)
      · exact Or.inr (by rw [e]; decide)
  refine x_bentBy hS hN hR hW hD (lw_of hTx hC hx (k := 0) (by decide)) zz (fun q => h _ mem fun K2 h2 => ?_) (fun i q hi e1 em => h _ mem fun K2 h2 => ?_) (fun i j z hi hj hz24 ez e1 e2 hw em mem1 F => h _ mem1 fun K2 h2 => ?_)
  · exact m_bentBy hS (TC.of hI0' RO.rfl) (z1 mem RO.rfl).1 (z1 mem RO.rfl).2 (fun _ => h2 mem hI') (fun i y hi e1 _ => absurd ⟨by rw [e1]; exact ⟨nI_pos' (by omega), nI_le (b := 3) (by omega) (by decide)⟩, y.1, y.2⟩ q) (fun i j z hi hj _ _ e1 e2 hw _ => absurd ⟨by rw [e1]; exact ⟨nI_pos' (by omega), nI_le (b := 3) (by omega) (by decide)⟩, by rw [e2]; exact ix_in (by omega) hj, hw⟩ q)
  · subst e1
    exact m_bentBy hS (TC.of hI0' RO.rfl) (z1 mem RO.rfl).1 (z1 mem RO.rfl).2 (fun y => absurd ⟨⟨nI_pos' (by omega), nI_le (b := 3) (by omega) (by decide)⟩, q.1, q.2⟩ y) (fun i' y hi' e1 _ => h2 mem hI') (fun i' j z hi' hj _ _ e1 e2 hw y => by
      have := ixe e1 (by omega) (by omega)
      subst this
      exact absurd ((hSh i hi).1.symm.trans em) y)
  · subst e1; subst e2
    have F' := RO.T F
    refine m_bentBy hS (TC.of hI0' F') (z1 mem1 F').1 (z1 mem1 F').2 (fun y => absurd ⟨⟨nI_pos' (by omega), nI_le (b := 3) (by omega) (by decide)⟩, ix_in (by omega) hj, hw⟩ y) (fun i' y hi' e1 y2 => ?_) (fun i' j' z' hi' hj' hz' ez' e1 e2 hw y mem2 F2 => ?_)
    · have := ixe e1 (by omega) (by omega)
      subst this
      rw [F' 117 (by unfold SC; omega)] at y2
      exact absurd ((hSh i hi).1.trans y2) em
    · have := ixe e1 (by omega) (by omega)
      subst this
      have := ixe e2 (by omega) (by omega)
      subst this
      rw [F' 118 (by unfold SC; omega)] at ez'
      obtain ⟨z0, a, b, c⟩ := (hSh i hi).2.2.1
      have q1 : z = z0 := ixe (ez.symm.trans b) (by omega) (by omega)
      have q2 : z' = z0 := ixe (ez'.symm.trans c) (by omega) (by omega)
      subst q1; subst q2
      have ev : vBent (ctO (oF (mem 102) 0 T)) N (mem 102) j z' (fun k => mem1 119 (24 * i + k)) = vBent (ctO (oF (mem 102) 0 T)) N (mem 102) j z' (mem (shC i + 1)) := by
        funext a
        unfold vBent
        refine dfS_congr z' fun k hk => ?_
        rw [F' 119 (by unfold SC; omega), (hSh i hi).2.2.2.1 k (by omega)]
      rw [ev]
      exact h2 mem2 (hI'.ro (F'.trans (RO.S F2)))
theorem J_fee (hI : Inv sh rf mem nx) : JC l G ol mX_fee mM_fee [] sh rf mem nx := by
  have hI' := hI
  obtain ⟨hS, N, D, T, hI0, hx⟩ := hI
  have hI0' := hI0
  obtain ⟨⟨hN, hD, hR, hW, hTx, h10, hC, hz⟩, hImg, hTap, hSh, hSl, hWa, hKs⟩ := hI0
  intro K h
  exact x_fee hS hN hR (lw_of hTx hC hx (k := 1) (by decide)) fun mem1 F => h _ mem1 fun K2 h2 => m_fee (f := mem 102) hS hN (F 102 (by decide)) hW.1 hTx fun mem2 F2 => h2 mem2 (hI'.ro ((RO.s3 F).trans (RO.S F2)))
theorem J_fine (hI : Inv sh rf mem nx) {t : Int32} : JC l G ol mX_fine mM_fine [.int t] sh rf mem nx := by
  have hI' := hI
  obtain ⟨hS, N, D, T, hI0, hx⟩ := hI
  have hI0' := hI0
  obtain ⟨⟨hN, hD, hR, hW, hTx, h10, hC, hz⟩, hImg, hTap, hSh, hSl, hWa, hKs⟩ := hI0
  intro K h
  refine x_fine hS hN hR (lw_of hTx hC hx (k := 2) (by decide)) (fun q => h _ mem fun K2 h2 => ?_) (fun i hi e1 mem1 F => h _ mem1 fun K2 h2 => ?_)
  · exact m_fine hS hN rfl hW.1 hTx (fun _ => h2 mem hI') (fun i hi e1 => absurd (by rw [e1]; exact ix_in (by omega) hi) q)
  · subst e1
    exact m_fine (f := mem 102) hS hN (F 102 (by decide)) hW.1 hTx (fun q => absurd (ix_in (by omega) hi) q) (fun i' hi' e1 mem2 F2 => by rw [← ixe e1 (by omega) (by omega)]; exact h2 mem2 (hI'.ro ((RO.s3 F).trans (RO.S F2))))
theorem J_textTold (hI : Inv sh rf mem nx) {p w : Int32} : JC l G ol mX_textTold mM_textTold [.int p, .int w] sh rf mem nx := by
  have hI' := hI
  obtain ⟨hS, N, D, T, hI0, hx⟩ := hI
  have hI0' := hI0
  obtain ⟨⟨hN, hD, hR, hW, hTx, h10, hC, hz⟩, hImg, hTap, hSh, hSl, hWa, hKs⟩ := hI0
  intro K h
  have hT14 := hTx.2.1
  refine x_textTold hS hR hTx.2.1 hTx.1 (kf := fun j => mem 102 (111 + 2 * j) / 1000) (pf := fun j => mem 102 (111 + 2 * j + 1)) (fun j hj => ?_) (fun q => h _ mem fun K2 h2 => ?_) (fun j hj e1 hw => h _ mem fun K2 h2 => ?_)
  · obtain ⟨b, cb, g1, g2, g3, g4, g5, g6, g7, g8, g9, g10⟩ := hx j hj
    exact ⟨b, g1, g3, g9, g10⟩
  · exact m_textTold hS rfl hTx.2.1 hTx.1 (fun _ => h2 mem hI') (fun j hj e1 hw => absurd ⟨by rw [e1]; exact ix_in (by omega) hj, hw⟩ q)
  · subst e1
    exact m_textTold hS rfl hTx.2.1 hTx.1 (fun q => absurd ⟨ix_in (by omega) hj, hw⟩ q) (fun j' hj' e1 hw => by rw [← ixe e1 (by omega) (by omega)]; exact h2 mem hI')
theorem J_why (hI : Inv sh rf mem nx) {w : Int32} : JC l G ol mX_why mM_why [.int w] sh rf mem nx := by
  have hI' := hI
  obtain ⟨hS, N, D, T, hI0, hx⟩ := hI
  have hI0' := hI0
  obtain ⟨⟨hN, hD, hR, hW, hTx, h10, hC, hz⟩, hImg, hTap, hSh, hSl, hWa, hKs⟩ := hI0
  intro K h
  refine x_why hS (fun q => h _ mem fun K2 h2 => ?_) (fun k hk e1 => h _ mem fun K2 h2 => ?_)
  · exact m_why hS rfl hTx.2.1 hTx.1 (fun _ => h2 mem hI') (fun k hk e1 => absurd (by rw [e1]; exact ⟨nI_pos' (by omega), nI_le (b := 2) (by omega) (by decide)⟩) q)
  · subst e1
    exact m_why hS rfl hTx.2.1 hTx.1 (fun q => absurd ⟨nI_pos' (by omega), nI_le (b := 2) (by omega) (by decide)⟩ q) (fun k' hk' e1 => by
      rw [← ixe e1 (by omega) (by omega)]
      have h2 := h2 mem hI'
      rw [hC k hk] at h2
      cases hl : lastK (mem 102) k T with
      | none => rw [hl] at h2; exact h2
      | some t => rw [hl] at h2; exact h2)
theorem so_2 (h : ISh mem) : ∀ i, i < 4 → mem 117 i = -1 ∨ 0 ≤ mem 117 i := fun i hi => by
  rcases (h i hi).2.1 with e | e | e
  · exact Or.inl e
  · exact Or.inr (by rw [e]; decide)
  · exact Or.inr (by rw [e]; decide)
theorem sz_x (h : ISh mem) : ∀ i, i < 4 → ∃ z, z ≤ 24 ∧ mem (shC i) 1 = nI z := fun i hi => by
  obtain ⟨z, a, b, c⟩ := (h i hi).2.2.1
  exact ⟨z, a, b⟩
theorem sz_m (h : ISh mem) : ∀ i, i < 4 → ∃ z, z ≤ 24 ∧ mem 118 i = nI z := fun i hi => by
  obtain ⟨z, a, b, c⟩ := (h i hi).2.2.1
  exact ⟨z, a, c⟩
theorem sz_e (h : ISh mem) {i z z' : Nat} (hi : i < 4) (h1 : z ≤ 24) (h2 : z' ≤ 24) (e1 : mem (shC i) 1 = nI z) (e2 : mem 118 i = nI z') : z' = z := by
  obtain ⟨z0, a, b, c⟩ := (h i hi).2.2.1
  have := ixe (e1.symm.trans b) (by omega) (by omega)
  have := ixe (e2.symm.trans c) (by omega) (by omega)
  omega
theorem J_reads (hI : Inv sh rf mem nx) {s : Int32} : JC l G ol mX_reads mM_reads [.int s] sh rf mem nx := by
  have hI' := hI
  obtain ⟨hS, N, D, T, hI0, hx⟩ := hI
  have hI0' := hI0
  obtain ⟨⟨hN, hD, hR, hW, hTx, h10, hC, hz⟩, hImg, hTap, hSh, hSl, hWa, hKs⟩ := hI0
  intro K h
  refine x_reads hS hN hR (sz_x hSh) (fun q => h _ mem fun K2 h2 => ?_) (fun i hi e1 em => h _ mem fun K2 h2 => ?_) (fun i z hi e1 em hz24 ez => h _ mem fun K2 h2 => ?_)
  · exact m_reads hS hN rfl hW.1 (sz_m hSh) (so_2 hSh) (fun _ => h2 mem hI') (fun i hi e1 _ => absurd (by rw [e1]; exact ⟨nI_pos' (by omega), nI_le (b := 3) (by omega) (by decide)⟩) q) (fun i z hi e1 _ _ _ => absurd (by rw [e1]; exact ⟨nI_pos' (by omega), nI_le (b := 3) (by omega) (by decide)⟩) q)
  · subst e1
    exact m_reads hS hN rfl hW.1 (sz_m hSh) (so_2 hSh) (fun q => absurd ⟨nI_pos' (by omega), nI_le (b := 3) (by omega) (by decide)⟩ q) (fun i' hi' e1 _ => h2 mem hI') (fun i' z hi' e1 y _ _ => by
      have := ixe e1 (by omega) (by omega)
      subst this
      exact absurd ((hSh i hi).1.symm.trans em) y)
  · subst e1
    exact m_reads hS hN rfl hW.1 (sz_m hSh) (so_2 hSh) (fun q => absurd ⟨nI_pos' (by omega), nI_le (b := 3) (by omega) (by decide)⟩ q) (fun i' hi' e1 y => by
      have := ixe e1 (by omega) (by omega)
      subst this
      exact absurd ((hSh i hi).1.trans y) em) (fun i' z' hi' e1 y hz' ez' => by
      have := ixe e1 (by omega) (by omega)
      subst this
      have := sz_e hSh hi hz24 hz' ez ez'
      subst this
      rw [← rdG_congr z' 0 (pl := mem (shC i + 1)) (fun x hx => (hSh i hi).2.2.2.1 x (by omega))]
      exact h2 mem hI')
theorem J_ask (hI : Inv sh rf mem nx) (hA : KA ol) {s w : Int32} : JC l G ol mX_ask mM_ask [.int s, .int w] sh rf mem nx := by
  have hI' := hI
  obtain ⟨hS, N, D, T, hI0, hx⟩ := hI
  have hI0' := hI0
  obtain ⟨⟨hN, hD, hR, hW, hTx, h10, hC, hz⟩, hImg, hTap, hSh, hSl, hWa, hKs⟩ := hI0
  intro K h
  refine x_ask hS hA (fun i hi e => ((hSl i hi).2.2.1 ((hSl i hi).1.symm.trans e)).1) (fun q => h _ mem fun K2 h2 => ?_) (fun i hi e1 hw => h _ mem fun K2 h2 => ?_)
  · exact m_ask hS (fun _ => h2 mem hI') (fun i hi e1 hw => absurd ⟨by rw [e1]; exact ⟨nI_pos' (by omega), nI_le (b := 4) (by omega) (by decide)⟩, hw⟩ q)
  · subst e1
    refine m_ask hS (fun q => absurd ⟨⟨nI_pos' (by omega), nI_le (b := 4) (by omega) (by decide)⟩, hw⟩ q) (fun i' hi' e1 hw => ?_)
    have := ixe e1 (by omega) (by omega)
    subst this
    have h2 := h2 mem hI'
    obtain ⟨s1, s2, s3, s4, s5⟩ := hSl i hi
    rw [s1] at h2
    by_cases c : mem 120 i = 1
    · obtain ⟨_, b1, b2⟩ := s3 c
      rw [if_pos c] at h2 ⊢
      rw [b1, b2]; exact h2
    · rw [if_neg c] at h2 ⊢
      exact h2
theorem J_item (hI : Inv sh rf mem nx) {s p : Int32} : JC l G ol mX_item mM_item [.int s, .int p] sh rf mem nx := by
  have hI' := hI
  obtain ⟨hS, N, D, T, hI0, hx⟩ := hI
  have hI0' := hI0
  obtain ⟨⟨hN, hD, hR, hW, hTx, h10, hC, hz⟩, hImg, hTap, hSh, hSl, hWa, hKs⟩ := hI0
  intro K h
  refine x_item hS (fun i hi e => ?_) (fun q => h _ mem fun K2 h2 => ?_) (fun i hi e1 => h _ mem fun K2 h2 => ?_)
  · obtain ⟨z, a, b, c, _⟩ := (hSl i hi).2.2.2.1 ((hSl i hi).1.symm.trans e)
    exact ⟨z, a, b⟩
  · exact m_item hS (fun i hi e => by obtain ⟨z, a, b, c, _⟩ := (hSl i hi).2.2.2.1 e; exact ⟨z, a, c⟩) (fun _ => h2 mem hI') (fun i hi e1 => absurd (by rw [e1]; exact ⟨nI_pos' (by omega), nI_le (b := 4) (by omega) (by decide)⟩) q)
  · subst e1
    refine m_item hS (fun i hi e => by obtain ⟨z, a, b, c, _⟩ := (hSl i hi).2.2.2.1 e; exact ⟨z, a, c⟩) (fun q => absurd ⟨nI_pos' (by omega), nI_le (b := 4) (by omega) (by decide)⟩ q) (fun i' hi' e1 => ?_)
    have := ixe e1 (by omega) (by omega)
    subst this
    have h2 := h2 mem hI'
    obtain ⟨s1, s2, s3, s4, s5⟩ := hSl i hi
    rw [s1] at h2
    by_cases c : mem 120 i = 2
    · obtain ⟨z, b0, b1, b2, b3⟩ := s4 c
      rw [if_pos c] at h2 ⊢
      rw [b1] at h2
      rw [b2]
      by_cases y : 0 ≤ p ∧ p ≤ nI z - 1
      · rw [if_pos y] at h2 ⊢
        obtain ⟨j, hj, rfl⟩ := ix_of (by omega) y
        rw [cl_nI (by omega), b3 j (by omega)] at h2
        rw [cl_nI (by omega)]
        exact h2
      · rw [if_neg y] at h2 ⊢; exact h2
    · rw [if_neg c] at h2 ⊢
      exact h2
theorem J_rest (hI : Inv sh rf mem nx) {s n : Int32} : JC l G ol mX_rest mM_rest [.int s, .int n] sh rf mem nx := by
  have hI' := hI
  obtain ⟨hS, N, D, T, hI0, hx⟩ := hI
  have hI0' := hI0
  obtain ⟨⟨hN, hD, hR, hW, hTx, h10, hC, hz⟩, hImg, hTap, hSh, hSl, hWa, hKs⟩ := hI0
  intro K h
  refine x_rest hS (fun q => h _ mem fun K2 h2 => ?_) (fun i hi e1 => h _ mem fun K2 h2 => ?_)
  · exact m_rest hS (fun _ => h2 mem hI') (fun i hi e1 => absurd (by rw [e1]; exact ⟨nI_pos' (by omega), nI_le (b := 4) (by omega) (by decide)⟩) q)
  · subst e1
    refine m_rest hS (fun q => absurd ⟨nI_pos' (by omega), nI_le (b := 4) (by omega) (by decide)⟩ q) (fun i' hi' e1 => ?_)
    have := ixe e1 (by omega) (by omega)
    subst this
    have h2 := h2 mem hI'
    obtain ⟨s1, s2, s3, s4, s5⟩ := hSl i hi
    rw [s1] at h2
    by_cases c : mem 120 i = 3
    · rw [if_pos c] at h2 ⊢
      rw [s5 c]; exact h2
    · rw [if_neg c] at h2 ⊢
      exact h2
theorem J_count (hI : Inv sh rf mem nx) {w : Int32} : JC l G ol mX_count mM_count [.int w] sh rf mem nx := by
  have hI' := hI
  obtain ⟨hS, N, D, T, hI0, hx⟩ := hI
  have hI0' := hI0
  obtain ⟨⟨hN, hD, hR, hW, hTx, h10, hC, hz⟩, hImg, hTap, hSh, hSl, hWa, hKs⟩ := hI0
  intro K h
  refine x_count hS hR (h _ mem fun K2 h2 => m_count hS rfl ?_)
  obtain ⟨L, _, t1, t2, _⟩ := hTap
  obtain ⟨W, _, w1, w2, _⟩ := hWa
  have h2 := h2 mem hI'
  rw [t1, w1] at h2
  rw [t2, w2]
  exact h2
end JR
