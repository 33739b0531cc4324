/-! THE REFERENCE: an expression, step by step -/
def Tt (mem : ab_N) (ts : List Bool) : Prop := ∀ j, j < ts.length → mem 114 (ts.length - 1 - j) = if ts.getD j false = true then 1 else 0
def bB (b : Bool) : Int32 := if b = true then 1 else 0
def RQ (tp : Row) (L key : Nat) (mem0 mem : ab_N) (M : PM) : Prop := FQ mem0 mem ∧ TK mem tp L M.s ∧ Cq mem M.cd ∧ Sk mem M.st ∧ Tt mem M.ts ∧ mem 101 21 = nI M.na ∧ M.ts.length = cO M.st + 1 ∧ M.s ≤ L ∧ Bud M ∧ cO M.st ≤ 8
theorem Tt.same {mem mem' : ab_N} {ts : List Bool} (h : Tt mem ts) (e : mem' 114 = mem 114) : Tt mem' ts := fun j hj => by rw [e]; exact h j hj
theorem Tt.top {mem : ab_N} {t : Bool} {ts : List Bool} (h : Tt mem (t :: ts)) : mem 114 ts.length = bB t := h 0 (by simp)
theorem Tt.tail {mem : ab_N} {t : Bool} {ts : List Bool} (h : Tt mem (t :: ts)) : Tt mem ts := fun j hj => by
  have := h (j + 1) (by simp; omega)
  rw [← show (t :: ts).length - 1 - (j + 1) = ts.length - 1 - j by simp; omega, this]
  simp
theorem Tt.push {mem mem' : ab_N} {t : Bool} {ts : List Bool} (h : Tt mem ts) (e : mem' 114 = upd (mem 114) ts.length (bB t)) : Tt mem' (t :: ts) := fun j hj => by
  rw [e]
  cases j with
  | zero => simp [upd, bB]
  | succ j =>
    have hj' : j < ts.length := by simp at hj; omega
    rw [show (t :: ts).length - 1 - (j + 1) = ts.length - 1 - j by simp; omega, pk_un (by omega), h j hj']
    simp
theorem cO_stl {r : Nat} : ∀ (st cd : List Int32), cO (stl r cd st).2 = cO st
  | [], cd => rfl
  | o :: st, cd => by
    rw [stl]
    split
    · rename_i q
      rw [cO_stl st (cd ++ [o])]
      unfold cO
      rw [List.count_cons_of_ne q.1]
    · rfl
theorem stl_0 : ∀ (st cd : List Int32), 0 < cO st → ∃ rest, (stl 0 cd st).2 = -11 :: rest ∧ cO rest + 1 = cO st
  | [], cd, h => absurd h (by decide)
  | o :: st, cd, h => by
    rw [stl]
    by_cases q : o = -11
    · rw [if_neg (fun z => z.1 q)]
      subst q
      exact ⟨st, rfl, by unfold cO; rw [List.count_cons_self]⟩
    · rw [if_pos ⟨q, Nat.zero_le _⟩]
      have e : cO (o :: st) = cO st := by unfold cO; rw [List.count_cons_of_ne q]
      rw [e] at h ⊢
      exact stl_0 st (cd ++ [o]) h
theorem cN_le (st : List Int32) : cN st ≤ st.length := List.count_le_length
theorem vb0 : vp_nar .boolean (0 : Int32) = 0 := by decide
theorem vb1 : vp_nar .boolean (1 : Int32) = 1 := by decide
section ME
variable {l : Launch} {G : ab_G} {ol : ab_Ol} {d : Nat} {sh : ab_S} {rf : ab_R} {mem0 : ab_N} {nx : Nat} {K : ab_K} {tp : Row} {L key : Nat}
theorem tsg_c {mem : ab_N} {s : Nat} {c : Int32} (hT : TK mem tp L s) (hc : c ≠ -1) : (mem 101 13 = 3 ∧ mem 101 14 = c) ↔ tsg tp L s = c := by
  have t4 := tkn_le (tp := tp) (L := L) s
  have e : mem 101 13 = 3 ↔ srt tp L s = 3 := by
    rw [hT.2.2.1, ← tkn_3]
    exact ixe_iff (by omega) (by decide)
  constructor
  · intro z
    have s3 := e.mp z.1
    unfold tsg
    rw [if_pos s3, ← hT.2.2.2.1 (Or.inl s3)]
    exact z.2
  · intro z
    have s3 := tsg_3 z hc
    refine ⟨e.mpr s3, ?_⟩
    rw [hT.2.2.2.1 (Or.inl s3)]
    unfold tsg at z
    rw [if_pos s3] at z
    exact z
/-- 'ab_Go' of takesE at a stop -/
abbrev goE (l : Launch) (G : ab_G) (ol : ab_Ol) (d : Nat) (K : ab_K) (pc : Nat) (L : List Value) (sh : ab_S) (rf : ab_R) (mem : ab_N) (nx : Nat) : Prop := ab_Go l G ol d mM_takesE (ab_mc mM_takesE) (ab_ms mM_takesE) (fun r sh rf mem nx _ _ => K r sh rf mem nx) pc L [] sh rf mem nx 0 0
theorem te_172 (hS : St sh rf nx) {M1 : PM} (go : ∀ mem u, RQ tp L key mem0 mem M1 → goE l G ol (d + 4) K 28 [.ref 101, .int (nI (cO M1.st)), .int (nI (cN M1.st)), .int (bB M1.w), u] sh rf mem nx) {mem : ab_N} {x : Int32} {u : Value} (hR : RQ tp L key mem0 mem M1) (hL : L ≤ 96) : goE l G ol (d + 4) K 172 [.ref 101, .int (nI (cO M1.st)), .int x, .int (bB M1.w), u] sh rf mem nx := by
  have hb := hR.2.2.2.2.2.2.2.2.1
  have hs := hR.2.2.2.2.2.2.2.1
  unfold Bud at hb
  exact g_mM_takesE_172 ⟨m9 hS, m_notsOpen (d := d + 3) hS hR.2.2.2.1 (by omega) ⟨_, rfl, go mem _ hR⟩⟩
theorem te_w (hS : St sh rf nx) (E0 : EQ tp L key mem0) {M M1 : PM} (hw : M.w = true) (h : stp tp L key M = some M1) (go : ∀ mem u, RQ tp L key mem0 mem M1 → goE l G ol (d + 4) K 28 [.ref 101, .int (nI (cO M1.st)), .int (nI (cN M1.st)), .int (bB M1.w), u] sh rf mem nx) (mem : ab_N) (u : Value) (hR : RQ tp L key mem0 mem M) : goE l G ol (d + 4) K 28 [.ref 101, .int (nI (cO M.st)), .int (nI (cN M.st)), .int (bB M.w), u] sh rf mem nx := by
  have i := m9 hS
  have hR' := hR
  obtain ⟨F, hT, hC, hK, hTt, ha, hts, hs, hB, h8⟩ := hR
  have hE := E0.on F
  have hL := E0.2.2.2.1
  have hB1 := Bud.on h hB
  have hn := cN_le M.st
  have hb0 := hB
  unfold Bud at hb0
  have s1 : M1.s = nxt tp L M.s := (stp_s h).1
  have s0 := (stp_s h).2.1
  have hn1 := nxt_le (tp := tp) (L := L) hs
  have v23 : vp_in (nI M.st.length) 96 := vp_in_nI (by omega) (by decide)
  have b1 : bB M.w = 1 := by rw [hw]; rfl
  rw [b1]
  unfold stp at h
  rw [if_pos hw] at h
  have l158 : ¬ (tsg tp L M.s = 33 ∧ cN M.st < 8) → ¬ (tsg tp L M.s = 40 ∧ cO M.st < 8) → ∀ x u, goE l G ol (d + 4) K 158 [.ref 101, .int (nI (cO M.st)), .int x, .int 1, u] sh rf mem nx := by
    intro n1 n2 x u
    rw [if_neg n1, if_neg n2] at h
    refine g_mM_takesE_158 ⟨i, m_takesPart (d := d + 1) hS hE hT hC hK ha (by omega) hs (fun v mem' hv F' e114 T' C' S' a' => ⟨_, rfl, fun z => absurd z (by decide), fun _ => ?_⟩) (fun hv => ?_)⟩
    · rw [hv] at h
      simp only [Option.some.injEq] at h
      subst h
      have := te_172 (d := d) hS go (mem := mem') (x := x) (u := .retAddr 0) ⟨F.trans F', T', C', S', hTt.same e114, a', by rw [cO_stl]; exact hts, hn1, hB1, by rw [cO_stl]; exact h8⟩ hL
      rw [show cO (stl 6 (M.cd ++ [v]) M.st).2 = cO M.st from cO_stl _ _] at this
      exact this
    · rw [hv] at h; cases h
  have l97 : ¬ (tsg tp L M.s = 33 ∧ cN M.st < 8) → ∀ u, goE l G ol (d + 4) K 97 [.ref 101, .int (nI (cO M.st)), .int (nI (cN M.st)), .int 1, u] sh rf mem nx := by
    intro n1 u
    refine g_mM_takesE_97 ⟨i, fun q => l158 n1 (fun z => q ((tsg_c hT (by decide)).mpr z.1).1) _ _, fun q => ⟨i, fun q2 => l158 n1 (fun z => q2 ((tsg_c hT (by decide)).mpr z.1).2) _ _, fun q2 => ⟨fun q3 => l158 n1 (fun z => absurd q3 (nI_ge z.2 (by decide))) _ _, fun q3 => ⟨i, ?_⟩⟩⟩⟩
    have e40 := (tsg_c hT (by decide)).mp ⟨q, q2⟩
    have o8 : cO M.st < 8 := by
      rcases Nat.lt_or_ge (cO M.st) 8 with z | z
      · exact z
      · exact absurd (nI_le (a := 8) z (by omega)) q3
    rw [if_neg n1, if_pos ⟨e40, o8⟩] at h
    simp only [Option.some.injEq] at h
    subst h
    refine rd_of hS rfl rfl ⟨i, is_of hS rfl rfl, in_of (n := 96) hS rfl rfl (by rw [hK.1]; exact v23), i, i, ?_⟩
    rw [hK.1, cl_nI (by omega), ab_w_ne _ _ _ (by decide), hK.1, nI_1, nI_1]
    refine ⟨i, ma hS rfl rfl rfl (vp_in_nI (by omega) (by decide)) ⟨i, ?_⟩⟩
    rw [cl_nI (by omega), vb0]
    generalize hm : ab_w (ab_w (ab_w mem 113 M.st.length (-11)) 101 23 (nI (M.st.length + 1))) 114 (cO M.st + 1) 0 = mem2
    have o : ∀ a, a ≠ 101 → a ≠ 113 → a ≠ 114 → mem2 a = mem a := fun a a1 a2 a3 => by rw [← hm, ab_w_ne _ _ _ a3, ab_w_ne _ _ _ a1, ab_w_ne _ _ _ a2]
    have o1 : ∀ j, j ≠ 23 → mem2 101 j = mem 101 j := fun j j1 => by rw [← hm, ab_w_ne _ _ _ (by decide), w_ne _ _ (Or.inr j1), ab_w_ne _ _ _ (by decide)]
    have S2 : Sk mem2 (-11 :: M.st) := hK.push (by rw [← hm, ab_w_ne _ _ _ (by decide), ab_w_ne _ _ _ (by decide), ab_w_self]) (by rw [← hm, ab_w_ne _ _ _ (by decide), w_eq])
    have C2 : Cq mem2 M.cd := hC.same (o 112 (by decide) (by decide) (by decide)) (o1 20 (by decide))
    have T2 : Tt mem2 (false :: M.ts) := hTt.push (by rw [← hm, ab_w_self, ab_w_ne _ _ _ (by decide), ab_w_ne _ _ _ (by decide), hts]; rfl)
    have F2 : FQ mem mem2 := ⟨fun a a1 _ a3 a4 => o a a1 a3 a4, fun j _ _ _ j4 => o1 j j4⟩
    have c1 : cO (-11 :: M.st) = cO M.st + 1 := by unfold cO; rw [List.count_cons_self]
    refine m_goK (d := d + 2) hS (hE.on F2) (hT.same fun j j1 j2 => o1 j (by omega)) hs s0 (fun mem3 F3 T3 => ⟨rfl, ?_⟩)
    have := te_172 (d := d) hS go (mem := mem3) (x := nI (cN M.st)) (u := .retAddr 0) ⟨(F.trans F2).trans F3.q, T3, C2.same (F3.1 112 (by decide)) (F3.2 20 (by omega)), S2.same (F3.1 113 (by decide)) (F3.2 23 (by omega)), T2.same (F3.1 114 (by decide)), by rw [F3.2 21 (by omega), o1 21 (by decide)]; exact ha, by show (false :: M.ts).length = cO (-11 :: M.st) + 1; rw [c1, List.length_cons, hts], hn1, hB1, by show cO (-11 :: M.st) ≤ 8; omega⟩ hL
    rw [show cO (PM.st (nxt tp L M.s, M.cd, -11 :: M.st, true, false :: M.ts, M.na)) = cO M.st + 1 from c1] at this
    exact this
  have l39 : ∀ u, goE l G ol (d + 4) K 39 [.ref 101, .int (nI (cO M.st)), .int (nI (cN M.st)), .int 1, u] sh rf mem nx := by
    intro u
    refine g_mM_takesE_39 ⟨fun z => absurd z (by decide), fun _ => ⟨i, fun q => l97 (fun z => q ((tsg_c hT (by decide)).mpr z.1).1) _, fun q => ⟨i, fun q2 => l97 (fun z => q2 ((tsg_c hT (by decide)).mpr z.1).2) _, fun q2 => ⟨fun q3 => l97 (fun z => absurd q3 (nI_ge z.2 (by decide))) _, fun q3 => ⟨i, ?_⟩⟩⟩⟩⟩
    have e33 := (tsg_c hT (by decide)).mp ⟨q, q2⟩
    have n8 : cN M.st < 8 := by
      rcases Nat.lt_or_ge (cN M.st) 8 with z | z
      · exact z
      · exact absurd (nI_le (a := 8) z (by omega)) q3
    rw [if_pos ⟨e33, n8⟩] at h
    simp only [Option.some.injEq] at h
    subst h
    refine rd_of hS rfl rfl ⟨i, is_of hS rfl rfl, in_of (n := 96) hS rfl rfl (by rw [hK.1]; exact v23), i, i, i, ?_⟩
    rw [hK.1, cl_nI (by omega), ab_w_ne _ _ _ (by decide), hK.1, nI_1]
    generalize hm : ab_w (ab_w mem 113 M.st.length (-10)) 101 23 (nI (M.st.length + 1)) = mem2
    have o : ∀ a, a ≠ 101 → a ≠ 113 → mem2 a = mem a := fun a a1 a2 => by rw [← hm, ab_w_ne _ _ _ a1, ab_w_ne _ _ _ a2]
    have o1 : ∀ j, j ≠ 23 → mem2 101 j = mem 101 j := fun j j1 => by rw [← hm, w_ne _ _ (Or.inr j1), ab_w_ne _ _ _ (by decide)]
    have S2 : Sk mem2 (-10 :: M.st) := hK.push (by rw [← hm, ab_w_ne _ _ _ (by decide), ab_w_self]) (by rw [← hm, w_eq])
    have C2 : Cq mem2 M.cd := hC.same (o 112 (by decide) (by decide)) (o1 20 (by decide))
    have F2 : FQ mem mem2 := ⟨fun a a1 _ a3 _ => o a a1 a3, fun j _ _ _ j4 => o1 j j4⟩
    have c1 : cO (-10 :: M.st) = cO M.st := by unfold cO; rw [List.count_cons_of_ne (by decide)]
    refine m_goK (d := d + 2) hS (hE.on F2) (hT.same fun j j1 j2 => o1 j (by omega)) hs s0 (fun mem3 F3 T3 => ⟨rfl, ?_⟩)
    have := te_172 (d := d) hS go (mem := mem3) (x := nI (cN M.st) + 1) (u := .retAddr 0) ⟨(F.trans F2).trans F3.q, T3, C2.same (F3.1 112 (by decide)) (F3.2 20 (by omega)), S2.same (F3.1 113 (by decide)) (F3.2 23 (by omega)), hTt.same ((F3.1 114 (by decide)).trans (o 114 (by decide) (by decide))), by rw [F3.2 21 (by omega), o1 21 (by decide)]; exact ha, by show M.ts.length = cO (-10 :: M.st) + 1; rw [c1]; exact hts, hn1, hB1, by show cO (-10 :: M.st) ≤ 8; omega⟩ hL
    rw [show cO (PM.st (nxt tp L M.s, M.cd, -10 :: M.st, true, M.ts, M.na)) = cO M.st from c1] at this
    exact this
  exact g_mM_takesE_28 ⟨fun _ => l39 _, fun z => absurd z (by decide)⟩
end ME
