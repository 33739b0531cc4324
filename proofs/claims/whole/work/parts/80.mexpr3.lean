/-! THE REFERENCE: an expression, to its end -/
section MX
variable {l : Launch} {G : ab_G} {ol : ab_Ol} {d : Nat} {sh : ab_S} {rf : ab_R} {mem0 : ab_N} {nx : Nat} {K : ab_K} {tp : Row} {L key : Nat}
theorem te_done (hS : St sh rf nx) (E0 : EQ tp L key mem0) {M : PM} (hw : M.w = false) (s0 : srt tp L M.s = 0) (hP : PR 1 M.st) (h1 : ∀ mem', FQ mem0 mem' → Cq mem' (M.cd ++ M.st) → mem' 101 21 = nI M.na → K (some (.int 1)) sh rf mem' nx) (mem : ab_N) (u : Value) (hR : RQ tp L key mem0 mem M) : goE l G ol (d + 4) K 28 [.ref 101, .int (nI (cO M.st)), .int (nI (cN M.st)), .int (bB M.w), u] sh rf mem nx := by
  have i := m9 hS
  obtain ⟨F, hT, hC, hK, hTt, ha, hts, hs, hB, h8⟩ := hR
  have hL := E0.2.2.2.1
  unfold Bud at hB
  have c0 : cO M.st = 0 := List.count_eq_zero.mpr (fun hmem => (hP _ hmem).1 rfl)
  have b1 : bB M.w = 0 := by rw [hw]; rfl
  rw [b1, c0]
  refine g_mM_takesE_28 ⟨fun z => absurd rfl z, fun _ => ⟨i, fun q => g_mM_takesE_345 ⟨i, ?_⟩, fun q => absurd (by rw [hT.2.2.1, (tkn_0 M.s).mpr s0]; rfl) q⟩⟩
  refine m_settle (d := d + 2) (r := 0) hS (by decide) hC hK (by omega) (fun mem1 F1 C1 S1 => ⟨rfl, fun z => absurd rfl z, fun _ => ⟨Or.inr rfl, ?_⟩⟩)
  have e := stl_all (r := 0) (st := []) (fun o rest e => by cases e) M.st M.cd (fun o ho => ⟨(hP o ho).1, Nat.zero_le _⟩)
  rw [List.append_nil] at e
  rw [e] at C1
  exact h1 mem1 (F.trans F1.q) C1 (by rw [F1.2 21 (by decide) (by decide)]; exact ha)
theorem te_fail (hS : St sh rf nx) (E0 : EQ tp L key mem0) {M : PM} (hF : Fl tp L key M) (h0 : ∀ mem', FQ mem0 mem' → mem' 101 12 = nI M.s → K (some (.int 0)) sh rf mem' nx) (mem : ab_N) (u : Value) (hR : RQ tp L key mem0 mem M) : goE l G ol (d + 4) K 28 [.ref 101, .int (nI (cO M.st)), .int (nI (cN M.st)), .int (bB M.w), u] sh rf mem nx := by
  have i := m9 hS
  obtain ⟨F, hT, hC, hK, hTt, ha, hts, hs, hB, h8⟩ := hR
  have hE := E0.on F
  have hL := E0.2.2.2.1
  have hb0 := hB
  unfold Bud at hb0
  obtain ⟨hno, hnd⟩ := hF
  have end0 : K (some (.int 0)) sh rf mem nx := h0 mem F hT.2.1
  unfold stp at hno
  by_cases hw : M.w = true
  · rw [show bB M.w = 1 by rw [hw]; rfl]
    rw [if_pos hw] at hno
    have n1 : ¬ (tsg tp L M.s = 33 ∧ cN M.st < 8) := fun z => by rw [if_pos z] at hno; cases hno
    rw [if_neg n1] at hno
    have n2 : ¬ (tsg tp L M.s = 40 ∧ cO M.st < 8) := fun z => by rw [if_pos z] at hno; cases hno
    rw [if_neg n2] at hno
    have hp : prt tp L key M.s = none := by
      cases e : prt tp L key M.s with
      | none => rfl
      | some v => rw [e] at hno; cases hno
    have l158 : ∀ x u, goE l G ol (d + 4) K 158 [.ref 101, .int (nI (cO M.st)), .int x, .int 1, u] sh rf mem nx := fun x u => g_mM_takesE_158 ⟨i, m_takesPart (d := d + 1) hS hE hT hC hK ha (by omega) hs (fun v mem' hv _ _ _ _ _ _ => by rw [hp] at hv; cases hv) (fun _ => ⟨_, rfl, fun _ => ⟨Or.inl rfl, end0⟩, fun z => absurd rfl z⟩)⟩
    have l97 : ∀ u, goE l G ol (d + 4) K 97 [.ref 101, .int (nI (cO M.st)), .int (nI (cN M.st)), .int 1, u] sh rf mem nx := fun u => g_mM_takesE_97 ⟨i, fun q => l158 _ _, fun q => ⟨i, fun q2 => l158 _ _, fun q2 => ⟨fun q3 => l158 _ _, fun q3 => absurd ⟨(tsg_c hT (by decide)).mp ⟨q, q2⟩, by
      rcases Nat.lt_or_ge (cO M.st) 8 with z | z
      · exact z
      · exact absurd (nI_le (a := 8) z (by omega)) q3⟩ n2⟩⟩⟩
    have hn := cN_le M.st
    exact g_mM_takesE_28 ⟨fun _ => g_mM_takesE_39 ⟨fun z => absurd z (by decide), fun _ => ⟨i, fun q => l97 _, fun q => ⟨i, fun q2 => l97 _, fun q2 => ⟨fun q3 => l97 _, fun q3 => absurd ⟨(tsg_c hT (by decide)).mp ⟨q, q2⟩, by
      rcases Nat.lt_or_ge (cN M.st) 8 with z | z
      · exact z
      · exact absurd (nI_le (a := 8) z (by omega)) q3⟩ n1⟩⟩⟩⟩, fun z => absurd z (by decide)⟩
  · have hw' : M.w = false := by cases e : M.w; rfl; exact absurd e hw
    rw [show bB M.w = 0 by rw [hw']; rfl]
    rw [if_neg hw] at hno
    have t4 := tkn_le (tp := tp) (L := L) M.s
    by_cases s0 : srt tp L M.s = 0
    · have c0 : cO M.st ≠ 0 := fun z => hnd ⟨hw', s0, z⟩
      refine g_mM_takesE_28 ⟨fun z => absurd rfl z, fun _ => ⟨i, fun q => g_mM_takesE_345 ⟨i, ?_⟩, fun q => absurd (by rw [hT.2.2.1, (tkn_0 M.s).mpr s0]; rfl) q⟩⟩
      refine m_settle (d := d + 2) (r := 0) hS (by decide) hC hK (by omega) (fun mem1 F1 C1 S1 => ⟨rfl, fun z => ⟨Or.inl rfl, ?_⟩, fun z => absurd ((ixe_iff (by omega) (by decide)).mp z) c0⟩)
      exact h0 mem1 (F.trans F1.q) (by rw [F1.2 12 (by decide) (by decide)]; exact hT.2.1)
    · rw [if_neg s0] at hno
      have n41 : ¬ (tsg tp L M.s = 41 ∧ 0 < cO M.st) := fun z => by rw [if_pos z] at hno; cases hno
      rw [if_neg n41] at hno
      have bad : opOf (tsg tp L M.s) = 0 ∨ (rkS (opOf (tsg tp L M.s)) = 3 ∧ hdT M.ts = true) := Classical.byContradiction fun z => by rw [if_neg z] at hno; cases hno
      have hk6 := rk_le (opOf (tsg tp L M.s))
      have vO : vp_in (nI (cO M.st)) 10 := vp_in_nI (by omega) (by decide)
      have l237 : ∀ u, goE l G ol (d + 4) K 237 [.ref 101, .int (nI (cO M.st)), .int (nI (cN M.st)), .int 0, u] sh rf mem nx := by
        intro u
        refine g_mM_takesE_237 ⟨i, m_signHere (d := d + 3) hS hT ⟨_, rfl, fun z => ⟨Or.inl rfl, end0⟩, fun z => ⟨by decide, ?_⟩⟩⟩
        rcases bad with b | b
        · exact absurd b z
        · refine m_rank ⟨_, rfl, fun w => absurd (by rw [b.1]; rfl) w, fun w => ⟨i, ma hS rfl rfl rfl vO ?_⟩⟩
          have et : mem 114 (cO M.st) = 1 := by
            have := hTt 0 (by omega)
            rw [show M.ts.length - 1 - 0 = cO M.st by omega] at this
            rw [this, if_pos]
            have h2 := b.2
            unfold hdT at h2
            cases e : M.ts with
            | nil => rw [e] at hts; simp at hts
            | cons t tl => rw [e] at h2; exact h2
          rw [cl_nI (by omega), et]
          exact ⟨fun q => absurd q (by decide), fun _ => ⟨Or.inl rfl, end0⟩⟩
      refine g_mM_takesE_28 ⟨fun z => absurd rfl z, fun _ => ⟨i, fun q => ?_, fun _ => g_mM_takesE_39 ⟨fun _ => g_mM_takesE_180 ⟨i, fun q => l237 _, fun q => ⟨i, fun q2 => l237 _, fun q2 => ⟨fun q3 => l237 _, fun q3 => absurd ⟨(tsg_c hT (by decide)).mp ⟨q, q2⟩, ?_⟩ n41⟩⟩⟩, fun z => absurd rfl z⟩⟩⟩
      · rw [hT.2.2.1] at q
        exact absurd ((tkn_0 M.s).mp ((ixe_iff (by omega) (by decide)).mp q)) s0
      · rcases Nat.eq_zero_or_pos (cO M.st) with z | z
        · rw [z] at q3; exact absurd (by decide) q3
        · exact z
/-- from a state on, to where the reading leads -/
theorem te_rch (hS : St sh rf nx) (E0 : EQ tp L key mem0) {M M' : PM} (h : Rch tp L key M M') (hn : nts M.w M.st) (go : ∀ mem u, RQ tp L key mem0 mem M' → goE l G ol (d + 4) K 28 [.ref 101, .int (nI (cO M'.st)), .int (nI (cN M'.st)), .int (bB M'.w), u] sh rf mem nx) : ∀ mem u, RQ tp L key mem0 mem M → goE l G ol (d + 4) K 28 [.ref 101, .int (nI (cO M.st)), .int (nI (cN M.st)), .int (bB M.w), u] sh rf mem nx :=
  Rch.ind (motive := fun A B => nts A.w A.st → (∀ mem u, RQ tp L key mem0 mem B → goE l G ol (d + 4) K 28 [.ref 101, .int (nI (cO B.st)), .int (nI (cN B.st)), .int (bB B.w), u] sh rf mem nx) → ∀ mem u, RQ tp L key mem0 mem A → goE l G ol (d + 4) K 28 [.ref 101, .int (nI (cO A.st)), .int (nI (cN A.st)), .int (bB A.w), u] sh rf mem nx) (fun _ _ g => g) (fun A A1 B a _ ih hn g => by
    have g1 := ih (nts_on a hn) g
    by_cases hw : A.w = true
    · exact te_w hS E0 hw a g1
    · have hw' : A.w = false := by cases e : A.w; rfl; exact absurd e hw
      exact te_n hS E0 hw' (by rw [hw'] at hn; exact hn) a g1) h hn go
theorem m_takesE (hS : St sh rf nx) {mem : ab_N} (hE : EQ tp L key mem) {M M' : PM} (hM : M = (M.s, [], [], true, [false], 0)) (hT : TK mem tp L M.s) (hs : M.s ≤ L) (hpos : 0 < M.s) (h : Rch tp L key M M') (hend : (Fl tp L key M' ∧ ∀ mem', FQ mem mem' → mem' 101 12 = nI M'.s → K (some (.int 0)) sh rf mem' nx) ∨ (M'.w = false ∧ srt tp L M'.s = 0 ∧ PR 1 M'.st ∧ ∀ mem', FQ mem mem' → Cq mem' (M'.cd ++ M'.st) → mem' 101 21 = nI M'.na → K (some (.int 1)) sh rf mem' nx)) : ab_Cx l G ol (d + 5) mM_takesE [.ref 101] sh rf mem nx K := by
  have i := m9 hS
  refine f_mM_takesE ⟨i, i, i, i, ma hS rfl rfl rfl (vp_in_nI (n := 0) (N := 10) (by decide) (by decide)) ?_⟩
  rw [vb0]
  generalize hm : ab_w (ab_w (ab_w (ab_w mem 101 20 0) 101 21 0) 101 23 0) 114 (Int32.toNatClampNeg 0) 0 = mem1
  have o : ∀ a, a ≠ 101 → a ≠ 114 → mem1 a = mem a := fun a a1 a2 => by rw [← hm, ab_w_ne _ _ _ a2, ab_w_ne _ _ _ a1, ab_w_ne _ _ _ a1, ab_w_ne _ _ _ a1]
  have o1 : ∀ j, j ≠ 20 → j ≠ 21 → j ≠ 23 → mem1 101 j = mem 101 j := fun j a b c => by rw [← hm, ab_w_ne _ _ _ (by decide), w_ne _ _ (Or.inr c), w_ne _ _ (Or.inr b), w_ne _ _ (Or.inr a)]
  have F : FQ mem mem1 := ⟨fun a a1 _ _ a4 => o a a1 a4, fun j _ a b c => o1 j a b c⟩
  have hR : RQ tp L key mem mem1 M := by
    refine ⟨F, hT.same (fun j j1 j2 => o1 j (by omega) (by omega) (by omega)), ?_, ?_, ?_, ?_, ?_, hs, ?_, ?_⟩
    · rw [hM]; exact ⟨by rw [← hm, ab_w_ne _ _ _ (by decide), w_ne _ _ (Or.inr (by decide)), w_ne _ _ (Or.inr (by decide)), w_eq]; rfl, fun k hk => absurd hk (Nat.not_lt_zero k)⟩
    · rw [hM]; exact ⟨by rw [← hm, ab_w_ne _ _ _ (by decide), w_eq]; rfl, fun k hk => absurd hk (Nat.not_lt_zero k)⟩
    · rw [hM]
      intro j hj
      have hj1 : j < 1 := hj
      have : j = 0 := by omega
      subst this
      show mem1 114 0 = 0
      rw [← hm]
      exact w_eq _ _ _ _
    · rw [hM, ← hm, ab_w_ne _ _ _ (by decide), w_ne _ _ (Or.inr (by decide)), w_eq]; rfl
    · rw [hM]; rfl
    · rw [hM]; exact hpos
    · rw [hM]; exact Nat.zero_le _
  have go := te_rch (l := l) (G := G) (ol := ol) (d := d) hS hE (K := K) h (by rw [hM]; trivial) (by
    rcases hend with ⟨hf, h0⟩ | ⟨a, b, c, h1⟩
    · exact te_fail hS hE hf h0
    · exact te_done hS hE a b c h1) mem1 (.retAddr 0) hR
  rw [hM] at go
  exact go
end MX
