/-! THE REFERENCE: an expression, where a sign is wanted -/
def nts : Bool → List Int32 → Prop
  | _, [] => True
  | b, o :: st => if o = -11 then nts true st else if o = -10 then b = true ∧ nts true st else nts false st
theorem nts_6 : ∀ (st cd : List Int32) (b : Bool), nts b st → nts false (stl 6 cd st).2
  | [], cd, b, _ => trivial
  | o :: st, cd, b, h => by
    rw [stl]
    rw [nts] at h
    by_cases q : o = -11
    · rw [if_neg (fun z => z.1 q)]
      rw [if_pos q] at h
      show nts false (o :: st)
      rw [nts, if_pos q]; exact h
    · rw [if_neg q] at h
      by_cases r : 6 ≤ rkS o
      · rw [if_pos ⟨q, r⟩]
        by_cases t : o = -10
        · rw [if_pos t] at h; exact nts_6 st _ true h.2
        · rw [if_neg t] at h; exact nts_6 st _ false h
      · rw [if_neg (fun z => r z.2)]
        have t : o ≠ -10 := fun t => r (by rw [t]; decide)
        rw [if_neg t] at h
        show nts false (o :: st)
        rw [nts, if_neg q, if_neg t]; exact h
theorem nts_r {r : Nat} : ∀ (st cd : List Int32), nts false st → nts false (stl r cd st).2 ∧ cN (stl r cd st).2 = cN st
  | [], cd, _ => ⟨trivial, rfl⟩
  | o :: st, cd, h => by
    rw [stl]
    have h' := h
    rw [nts] at h
    split
    · rename_i q
      rw [if_neg q.1] at h
      by_cases t : o = -10
      · rw [if_pos t] at h; exact absurd h.1 (by decide)
      · rw [if_neg t] at h
        obtain ⟨a, b⟩ := nts_r st (cd ++ [o]) h
        exact ⟨a, by rw [b]; unfold cN; rw [List.count_cons_of_ne t]⟩
    · exact ⟨h', rfl⟩
theorem nts_on {tp : Row} {L key : Nat} {M M1 : PM} (h : stp tp L key M = some M1) (hn : nts M.w M.st) : nts M1.w M1.st := by
  unfold stp at h
  split at h
  · rename_i hw
    rw [hw] at hn
    split at h
    · simp only [Option.some.injEq] at h
      subst h
      show nts true (-10 :: M.st)
      rw [nts, if_neg (by decide), if_pos rfl]; exact ⟨rfl, hn⟩
    · split at h
      · simp only [Option.some.injEq] at h
        subst h
        show nts true (-11 :: M.st)
        rw [nts, if_pos rfl]; exact hn
      · split at h
        · simp only [Option.some.injEq] at h
          subst h
          exact nts_6 _ _ true hn
        · cases h
  · rename_i hw
    have hw : M.w = false := by cases e : M.w; rfl; exact absurd e hw
    rw [hw] at hn
    split at h
    · cases h
    · split at h
      · rename_i q
        simp only [Option.some.injEq] at h
        subst h
        obtain ⟨rest, e1, e2⟩ := stl_0 M.st M.cd q.2
        have := (nts_r (r := 0) M.st M.cd hn).1
        rw [e1, nts, if_pos rfl] at this
        show nts false (stl 6 _ (stl 0 M.cd M.st).2.tail).2
        rw [e1]
        exact nts_6 rest _ true this
      · split at h
        · cases h
        · rename_i q
          simp only [Option.some.injEq] at h
          subst h
          have ho : opOf (tsg tp L M.s) ≠ 0 := fun z => q (Or.inl z)
          obtain ⟨_, a, b⟩ := op_lt6 ho
          show nts true (opOf (tsg tp L M.s) :: _)
          rw [nts, if_neg b, if_neg a]
          exact (nts_r M.st M.cd hn).1
section MN
variable {l : Launch} {G : ab_G} {ol : ab_Ol} {d : Nat} {sh : ab_S} {rf : ab_R} {mem0 : ab_N} {nx : Nat} {K : ab_K} {tp : Row} {L key : Nat}
theorem te_n (hS : St sh rf nx) (E0 : EQ tp L key mem0) {M M1 : PM} (hw : M.w = false) (hnt : nts false M.st) (h : stp tp L key M = some M1) (go : ∀ mem u, RQ tp L key mem0 mem M1 → goE l G ol (d + 4) K 28 [.ref 101, .int (nI (cO M1.st)), .int (nI (cN M1.st)), .int (bB M1.w), u] sh rf mem nx) (mem : ab_N) (u : Value) (hR : RQ tp L key mem0 mem M) : goE l G ol (d + 4) K 28 [.ref 101, .int (nI (cO M.st)), .int (nI (cN M.st)), .int (bB M.w), u] sh rf mem nx := by
  have i := m9 hS
  obtain ⟨F, hT, hC, hK, hTt, ha, hts, hs, hB, h8⟩ := hR
  have hE := E0.on F
  have hL := E0.2.2.2.1
  have hB1 := Bud.on h hB
  have hb0 := hB
  unfold Bud at hb0
  have s0 := (stp_s h).2.1
  have hn1 := nxt_le (tp := tp) (L := L) hs
  have b1 : bB M.w = 0 := by rw [hw]; rfl
  rw [b1]
  obtain ⟨t, tl, ets⟩ : ∃ t tl, M.ts = t :: tl := by
    cases e : M.ts with
    | nil => rw [e] at hts; simp at hts
    | cons t tl => exact ⟨t, tl, rfl⟩
  have etl : tl.length = cO M.st := by rw [ets] at hts; simpa using hts
  have hTt' := hTt
  rw [ets] at hTt'
  have etop : mem 114 (cO M.st) = bB t := by rw [← etl]; exact hTt'.top
  unfold stp at h
  rw [if_neg (by rw [hw]; decide), if_neg s0] at h
  have vO : vp_in (nI (cO M.st)) 10 := vp_in_nI (by omega) (by decide)
  have l306 : ∀ (o : Int32) (tv : Bool) (mem1 : ab_N), opOf (tsg tp L M.s) = o → o ≠ 0 → ¬ (tsg tp L M.s = 41 ∧ 0 < cO M.st) → ¬ (rkS o = 3 ∧ t = true) → tv = (decide (rkS o = 3) || (decide (3 < rkS o) && t)) → mem1 = ab_w mem 114 (cO M.st) (bB tv) → goE l G ol (d + 4) K 306 [.ref 101, .int (nI (cO M.st)), .int (nI (cN M.st)), .int 0, .int o] sh rf mem1 nx := by
    intro o tv mem1 eo ho n41 n3 etv em
    rw [if_neg n41, eo, if_neg (fun z => by
      rcases z with z | z
      · exact ho z
      · exact n3 ⟨z.1, by rw [ets] at z; exact z.2⟩)] at h
    simp only [Option.some.injEq] at h
    subst h
    obtain ⟨q6, q10, q11⟩ := op_lt6 (c := tsg tp L M.s) (by rw [eo]; exact ho)
    rw [eo] at q6 q10 q11
    have o1 : ∀ a, a ≠ 114 → mem1 a = mem a := fun a h1 => by rw [em, ab_w_ne _ _ _ h1]
    have T1 : Tt mem1 (tv :: tl) := hTt'.tail.push (by rw [em, ab_w_self, etl])
    have C1 : Cq mem1 M.cd := hC.same (o1 112 (by decide)) (by rw [o1 101 (by decide)])
    have S1 : Sk mem1 M.st := hK.same (o1 113 (by decide)) (by rw [o1 101 (by decide)])
    have F1 : FQ mem mem1 := ⟨fun a _ _ _ a4 => o1 a a4, fun j _ _ _ _ => by rw [o1 101 (by decide)]⟩
    have hlen := stl_len (r := rkS o) M.st M.cd
    refine g_mM_takesE_306 ⟨by decide, m_rank ⟨_, rfl, i, m_settle (d := d + 2) hS (rk_le o) C1 S1 (by omega) (fun mem2 F2 C2 S2 => ⟨rfl, i, rd_of hS rfl rfl ⟨i, is_of hS rfl rfl, ?_⟩⟩)⟩⟩
    rw [S2.1, cl_nI (by omega)]
    refine ⟨in_of (n := 96) hS rfl rfl (vp_in_nI (by omega) (by decide)), i, i, i, ?_⟩
    rw [ab_w_ne _ _ _ (by decide), S2.1, nI_1]
    generalize hm : ab_w (ab_w mem2 113 (stl (rkS o) M.cd M.st).2.length o) 101 23 (nI ((stl (rkS o) M.cd M.st).2.length + 1)) = mem3
    have p : ∀ a, a ≠ 101 → a ≠ 113 → mem3 a = mem2 a := fun a a1 a2 => by rw [← hm, ab_w_ne _ _ _ a1, ab_w_ne _ _ _ a2]
    have p1 : ∀ j, j ≠ 23 → mem3 101 j = mem2 101 j := fun j j1 => by rw [← hm, w_ne _ _ (Or.inr j1), ab_w_ne _ _ _ (by decide)]
    have S3 : Sk mem3 (o :: (stl (rkS o) M.cd M.st).2) := S2.push (by rw [← hm, ab_w_ne _ _ _ (by decide), ab_w_self]) (by rw [← hm, w_eq])
    have C3 : Cq mem3 (stl (rkS o) M.cd M.st).1 := C2.same (p 112 (by decide) (by decide)) (p1 20 (by decide))
    have F3 : FQ mem2 mem3 := ⟨fun a a1 _ a3 _ => p a a1 a3, fun j _ _ _ j4 => p1 j j4⟩
    have c1 : cO (o :: (stl (rkS o) M.cd M.st).2) = cO M.st := by unfold cO; rw [List.count_cons_of_ne q11]; exact cO_stl _ _
    have c2 : cN (o :: (stl (rkS o) M.cd M.st).2) = cN M.st := by unfold cN; rw [List.count_cons_of_ne q10]; exact (nts_r M.st M.cd hnt).2
    have e13 : ∀ j, 11 ≤ j → j ≤ 15 → mem3 101 j = mem 101 j := fun j j1 j2 => by rw [p1 j (by omega), F2.2 j (by omega) (by omega), o1 101 (by decide)]
    refine m_goK (d := d + 2) hS (((hE.on F1).on F2.q).on F3) (hT.same e13) hs s0 (fun mem4 F4 T4 => ⟨rfl, ?_⟩)
    have := go mem4 (.int o) ⟨((F.trans F1).trans (F2.q.trans F3)).trans F4.q, T4, C3.same (F4.1 112 (by decide)) (F4.2 20 (by omega)), S3.same (F4.1 113 (by decide)) (F4.2 23 (by omega)), ?_, ?_, ?_, hn1, hB1, ?_⟩
    · rw [show cO (PM.st (nxt tp L M.s, (stl (rkS o) M.cd M.st).1, o :: (stl (rkS o) M.cd M.st).2, true, (decide (rkS o = 3) || decide (3 < rkS o) && hdT M.ts) :: M.ts.tail, M.na)) = cO M.st from c1, show cN (PM.st (nxt tp L M.s, (stl (rkS o) M.cd M.st).1, o :: (stl (rkS o) M.cd M.st).2, true, (decide (rkS o = 3) || decide (3 < rkS o) && hdT M.ts) :: M.ts.tail, M.na)) = cN M.st from c2] at this
      exact this
    · rw [ets]
      show Tt mem4 ((decide (rkS o = 3) || (decide (3 < rkS o) && t)) :: tl)
      rw [← etv]
      exact T1.same ((F4.1 114 (by decide)).trans ((p 114 (by decide) (by decide)).trans (F2.1 114 (by decide) (by decide))))
    · rw [F4.2 21 (by omega), p1 21 (by decide), F2.2 21 (by decide) (by decide), o1 101 (by decide)]; exact ha
    · rw [ets]
      show (_ :: tl).length = cO (o :: _) + 1
      rw [c1, List.length_cons, etl]
    · show cO (o :: _) ≤ 8
      rw [c1]; exact h8
  have l268 : ∀ (o : Int32), opOf (tsg tp L M.s) = o → o ≠ 0 → ¬ (tsg tp L M.s = 41 ∧ 0 < cO M.st) → ¬ (rkS o = 3 ∧ t = true) → goE l G ol (d + 4) K 268 [.ref 101, .int (nI (cO M.st)), .int (nI (cN M.st)), .int 0, .int o] sh rf mem nx := by
    intro o eo ho n41 n3
    have hk6 := rk_le o
    have i11 : ab_is sh nx 114 11 := is_of hS rfl rfl
    have v11 : vp_in (nI (cO M.st)) (sh 114).2 := in_of (n := 10) hS rfl rfl vO
    refine g_mM_takesE_268 ⟨i, rd_of hS rfl rfl ⟨by decide, m_rank ⟨_, rfl, fun z => ⟨i11, v11, ?_⟩, fun z => ⟨by decide, m_rank ⟨_, rfl, fun z2 => ⟨i11, v11, ?_⟩, fun z2 => ⟨i, ma hS rfl rfl rfl vO ?_⟩⟩⟩⟩⟩⟩
    · have r3 : rkS o = 3 := (ixe_iff (by omega) (by decide)).mp z
      rw [cl_nI (by omega), vb1]
      exact l306 o true _ eo ho n41 n3 (by rw [r3]; rfl) rfl
    · have r3 : ¬ rkS o = 3 := fun w => z (by rw [w]; rfl)
      have r4 : ¬ 3 < rkS o := fun w => absurd z2 (nI_ge w (by omega))
      rw [cl_nI (by omega), vb0]
      exact l306 o false _ eo ho n41 n3 (by simp [r3, r4]) rfl
    · have r3 : ¬ rkS o = 3 := fun w => z (by rw [w]; rfl)
      have r4 : 3 < rkS o := by
        rcases Nat.lt_or_ge 3 (rkS o) with w | w
        · exact w
        · exact absurd (nI_le (b := 3) w (by decide)) z2
      rw [cl_nI (by omega), etop]
      refine ⟨fun q => ⟨i11, v11, ?_⟩, fun q => ⟨i11, v11, ?_⟩⟩
      · have tf : t = false := by
          cases t with
          | false => rfl
          | true => exact absurd q (by decide)
        rw [vb0]
        exact l306 o false _ eo ho n41 n3 (by simp [r3, tf]) rfl
      · have tt : t = true := by
          cases t with
          | true => rfl
          | false => exact absurd (show bB false = 0 from rfl) q
        rw [vb1]
        exact l306 o true _ eo ho n41 n3 (by simp [r4, tt]) rfl
  have l237 : ∀ u, ¬ (tsg tp L M.s = 41 ∧ 0 < cO M.st) → goE l G ol (d + 4) K 237 [.ref 101, .int (nI (cO M.st)), .int (nI (cN M.st)), .int 0, u] sh rf mem nx := by
    intro u n41
    have ho : opOf (tsg tp L M.s) ≠ 0 := fun z => by rw [if_neg n41, if_pos (Or.inl z)] at h; cases h
    have n3 : ¬ (rkS (opOf (tsg tp L M.s)) = 3 ∧ t = true) := fun z => by
      rw [if_neg n41, if_pos (Or.inr ⟨z.1, by rw [ets]; exact z.2⟩)] at h; cases h
    have hk6 := rk_le (opOf (tsg tp L M.s))
    refine g_mM_takesE_237 ⟨i, m_signHere (d := d + 3) hS hT ⟨_, rfl, fun z => absurd z ho, fun _ => ⟨by decide, m_rank ⟨_, rfl, fun z => l268 _ rfl ho n41 n3, fun z => ⟨i, ma hS rfl rfl rfl vO ?_⟩⟩⟩⟩⟩
    have r3 : rkS (opOf (tsg tp L M.s)) = 3 := (ixe_iff (by omega) (by decide)).mp z
    rw [cl_nI (by omega), etop]
    refine ⟨fun q => l268 _ rfl ho n41 n3, fun q => ?_⟩
    exfalso
    cases t with
    | true => exact n3 ⟨r3, rfl⟩
    | false => exact q rfl
  have l180 : ∀ u, goE l G ol (d + 4) K 180 [.ref 101, .int (nI (cO M.st)), .int (nI (cN M.st)), .int 0, u] sh rf mem nx := by
    intro u
    refine g_mM_takesE_180 ⟨i, fun q => l237 _ (fun z => q ((tsg_c hT (by decide)).mpr z.1).1), fun q => ⟨i, fun q2 => l237 _ (fun z => q2 ((tsg_c hT (by decide)).mpr z.1).2), fun q2 => ⟨fun q3 => l237 _ (fun z => absurd q3 (nI_ge (a := 0) z.2 (by omega))), fun q3 => ⟨i, ?_⟩⟩⟩⟩
    have e41 := (tsg_c hT (by decide)).mp ⟨q, q2⟩
    have pos : 0 < cO M.st := by
      rcases Nat.eq_zero_or_pos (cO M.st) with z | z
      · rw [z] at q3; exact absurd (by decide) q3
      · exact z
    rw [if_pos ⟨e41, pos⟩] at h
    simp only [Option.some.injEq] at h
    subst h
    obtain ⟨rest, e1, e2⟩ := stl_0 M.st M.cd pos
    have hlen := stl_len (r := 0) M.st M.cd
    refine m_settle (d := d + 2) (r := 0) hS (by decide) hC hK (by omega) (fun mem1 F1 C1 S1 => ⟨rfl, i, i, i, ?_⟩)
    rw [e1] at S1 hlen
    rw [List.length_cons] at hlen
    have e23 : mem1 101 23 - 1 = nI rest.length := by rw [S1.1]; exact pk_sub (a := rest.length + 1) (b := 1) (by omega)
    rw [e23]
    generalize hm : ab_w mem1 101 23 (nI rest.length) = mem2
    have p : ∀ a, a ≠ 101 → mem2 a = mem1 a := fun a a1 => by rw [← hm, ab_w_ne _ _ _ a1]
    have p1 : ∀ j, j ≠ 23 → mem2 101 j = mem1 101 j := fun j j1 => by rw [← hm, w_ne _ _ (Or.inr j1)]
    have S2 : Sk mem2 rest := S1.pop (p 113 (by decide)) (by rw [← hm, w_eq])
    have C2 : Cq mem2 (stl 0 M.cd M.st).1 := C1.same (p 112 (by decide)) (p1 20 (by decide))
    have F2 : FQ mem1 mem2 := ⟨fun a a1 _ _ _ => p a a1, fun j _ _ _ j4 => p1 j j4⟩
    have hlen6 := stl_len (r := 6) rest (stl 0 M.cd M.st).1
    refine m_settle (d := d + 2) (r := 6) hS (by decide) C2 S2 (by omega) (fun mem3 F3 C3 S3 => ⟨rfl, i, m_notsOpen (d := d + 3) hS S3 (by omega) ⟨_, rfl, i, ?_⟩⟩)
    have e13 : ∀ j, 11 ≤ j → j ≤ 15 → mem3 101 j = mem 101 j := fun j j1 j2 => by rw [F3.2 j (by omega) (by omega), p1 j (by omega), F1.2 j (by omega) (by omega)]
    refine m_goK (d := d + 2) hS (((hE.on F1.q).on F2).on F3.q) (hT.same e13) hs s0 (fun mem4 F4 T4 => ⟨rfl, ?_⟩)
    have c1 : cO (stl 6 (stl 0 M.cd M.st).1 (stl 0 M.cd M.st).2.tail).2 = cO M.st - 1 := by
      rw [cO_stl, e1]
      show cO rest = _
      omega
    have e2' : (stl 0 M.cd M.st).2.tail = rest := by rw [e1]; rfl
    have := go mem4 (.retAddr 0) ⟨((F.trans F1.q).trans (F2.trans F3.q)).trans F4.q, T4, by show Cq mem4 (stl 6 _ (stl 0 M.cd M.st).2.tail).1; rw [e2']; exact C3.same (F4.1 112 (by decide)) (F4.2 20 (by omega)), by show Sk mem4 (stl 6 _ (stl 0 M.cd M.st).2.tail).2; rw [e2']; exact S3.same (F4.1 113 (by decide)) (F4.2 23 (by omega)), ?_, ?_, ?_, hn1, hB1, ?_⟩
    · have q1 : cO (PM.st (nxt tp L M.s, (stl 6 (stl 0 M.cd M.st).1 (stl 0 M.cd M.st).2.tail).1, (stl 6 (stl 0 M.cd M.st).1 (stl 0 M.cd M.st).2.tail).2, false, M.ts.tail, M.na)) = cO M.st - 1 := c1
      have q2 : cN (PM.st (nxt tp L M.s, (stl 6 (stl 0 M.cd M.st).1 (stl 0 M.cd M.st).2.tail).1, (stl 6 (stl 0 M.cd M.st).1 (stl 0 M.cd M.st).2.tail).2, false, M.ts.tail, M.na)) = cN (stl 6 (stl 0 M.cd M.st).1 rest).2 := by rw [← e2']
      rw [q1, q2] at this
      rw [← Int32.sub_eq_add_neg, show nI (cO M.st) - 1 = nI (cO M.st - 1) from pk_sub (b := 1) pos]
      exact this
    · show Tt mem4 M.ts.tail
      rw [ets]
      exact hTt'.tail.same ((F4.1 114 (by decide)).trans ((F3.1 114 (by decide) (by decide)).trans ((p 114 (by decide)).trans (F1.1 114 (by decide) (by decide)))))
    · rw [F4.2 21 (by omega), F3.2 21 (by decide) (by decide), p1 21 (by decide), F1.2 21 (by decide) (by decide)]; exact ha
    · show M.ts.tail.length = cO (stl 6 _ (stl 0 M.cd M.st).2.tail).2 + 1
      rw [c1, ets]
      show tl.length = _
      omega
    · show cO (stl 6 _ (stl 0 M.cd M.st).2.tail).2 ≤ 8
      rw [c1]; omega
  refine g_mM_takesE_28 ⟨fun z => absurd rfl z, fun _ => ⟨i, fun q => ?_, fun _ => g_mM_takesE_39 ⟨fun _ => l180 _, fun z => absurd rfl z⟩⟩⟩
  rw [hT.2.2.1] at q
  have t4 := tkn_le (tp := tp) (L := L) M.s
  exact absurd ((tkn_0 M.s).mp ((ixe_iff (by omega) (by decide)).mp q)) s0
end MN
