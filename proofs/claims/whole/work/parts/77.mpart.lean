/-! THE REFERENCE: parts -/
def EQ (tp : Row) (L key : Nat) (mem : ab_N) : Prop := mem 109 = tp ∧ mem 101 10 = nI L ∧ mem 101 16 = nI key ∧ L ≤ 96 ∧ key < 3 ∧ ∀ j, ∃ q, q < 256 ∧ tp j = nI q
def FQ (mem mem' : ab_N) : Prop := (∀ a, a ≠ 101 → a ≠ 112 → a ≠ 113 → a ≠ 114 → mem' a = mem a) ∧ ∀ j, ¬ (11 ≤ j ∧ j ≤ 15) → j ≠ 20 → j ≠ 21 → j ≠ 23 → mem' 101 j = mem 101 j
theorem EQ.on {tp : Row} {L key : Nat} {mem mem' : ab_N} (h : EQ tp L key mem) (F : FQ mem mem') : EQ tp L key mem' := ⟨(F.1 109 (by decide) (by decide) (by decide) (by decide)).trans h.1, (F.2 10 (by omega) (by decide) (by decide) (by decide)).trans h.2.1, (F.2 16 (by omega) (by decide) (by decide) (by decide)).trans h.2.2.1, h.2.2.2⟩
theorem FQ.trans {m1 m2 m3 : ab_N} (h : FQ m1 m2) (g : FQ m2 m3) : FQ m1 m3 := ⟨fun a a1 a2 a3 a4 => (g.1 a a1 a2 a3 a4).trans (h.1 a a1 a2 a3 a4), fun j j1 j2 j3 j4 => (g.2 j j1 j2 j3 j4).trans (h.2 j j1 j2 j3 j4)⟩
theorem FG.q {m1 m2 : ab_N} (h : FG m1 m2) : FQ m1 m2 := ⟨fun a a1 _ _ _ => h.1 a a1, fun j j1 _ _ _ => h.2 j j1⟩
theorem FP.q {m1 m2 : ab_N} (h : FP m1 m2) : FQ m1 m2 := ⟨fun a a1 a2 _ _ => h.1 a a1 a2, fun j _ j2 _ j4 => h.2 j j2 j4⟩
theorem TK.same {mem mem' : ab_N} {tp : Row} {L s : Nat} (h : TK mem tp L s) (hj : ∀ j, 11 ≤ j → j ≤ 15 → mem' 101 j = mem 101 j) : TK mem' tp L s := by
  unfold TK at *
  rw [hj 11 (by decide) (by decide), hj 12 (by decide) (by decide), hj 13 (by decide) (by decide), hj 14 (by decide) (by decide), hj 15 (by decide) (by decide)]
  exact h
section MP
variable {l : Launch} {G : ab_G} {ol : ab_Ol} {d : Nat} {sh : ab_S} {rf : ab_R} {mem : ab_N} {nx : Nat} {K : ab_K} {tp : Row} {L key : Nat}
theorem m_goK (hS : St sh rf nx) {s : Nat} (hE : EQ tp L key mem) (hT : TK mem tp L s) (hs : s ≤ L) (s0 : srt tp L s ≠ 0) (h : ∀ mem', FG mem mem' → TK mem' tp L (nxt tp L s) → K none sh rf mem' nx) : ab_Cx l G ol (d + 2) mM_go [.ref 101] sh rf mem nx K := by
  obtain ⟨e1, e2, e3, e4, e5, e6⟩ := hE
  obtain ⟨t1, t2, t3, t4, t5, t6, t7⟩ := hT
  subst e1
  have hb := srt_le (tp := mem 109) (L := L) s
  have hen := en_le (tp := mem 109) (L := L) hs
  have hnx := nxt_le (tp := mem 109) (L := L) hs
  have hgt := nxt_gt (tp := mem 109) (L := L) s0
  have heg := en_gt (tp := mem 109) (L := L) s0
  refine m_go (k := en (mem 109) L s) hS e4 hen e2 t1 ?_ ?_ h
  · show mem 101 15 = nI (nxt (mem 109) L s) ↔ nbl (mem 109) L (nxt (mem 109) L s)
    by_cases s3 : srt (mem 109) L s = 3
    · have nb := nbl_s s3
      constructor
      · intro q
        exfalso
        rcases t7 s3 with z | ⟨j, hj, z⟩
        · rw [z] at q
          have := nI_pos' (n := nxt (mem 109) L s) (by omega)
          rw [← q] at this
          exact absurd this (by decide)
        · rw [z] at q
          have := ixe q (by omega) (by omega)
          omega
      · exact fun q => absurd q nb
    · rw [t6 (by omega), ixe_iff (by omega) (by omega), nbl_w s0 s3]
      exact ⟨fun q => q.symm, fun q => q.symm⟩
  · by_cases s3 : srt (mem 109) L s = 3
    · rcases t7 s3 with z | ⟨j, hj, z⟩
      · exact Or.inl z
      · exact Or.inr ⟨j, by omega, z⟩
    · exact Or.inr ⟨en (mem 109) L s, Nat.le_refl _, t6 (by omega)⟩
theorem m_takesPart (hS : St sh rf nx) {s na : Nat} {cd st : List Int32} (hE : EQ tp L key mem) (hT : TK mem tp L s) (hC : Cq mem cd) (hK : Sk mem st) (ha : mem 101 21 = nI na) (hlen : cd.length + st.length + 1 ≤ 96) (hs : s ≤ L) (h1 : ∀ v mem', prt tp L key s = some v → FQ mem mem' → mem' 114 = mem 114 → TK mem' tp L (nxt tp L s) → Cq mem' (stl 6 (cd ++ [v]) st).1 → Sk mem' (stl 6 (cd ++ [v]) st).2 → mem' 101 21 = nI (na + 1) → K (some (.int 1)) sh rf mem' nx) (h0 : prt tp L key s = none → K (some (.int 0)) sh rf mem nx) : ab_Cx l G ol (d + 3) mM_takesPart [.ref 101] sh rf mem nx K := by
  have i := m9 hS
  have hE' := hE
  obtain ⟨e1, e2, e3, e4, e5, e6⟩ := hE
  have hT' := hT
  obtain ⟨t1, t2, t3, t4, t5, t6, t7⟩ := hT
  have hb := srt_le (tp := tp) (L := L) s
  have t4' := tkn_le (tp := tp) (L := L) s
  have hge := en_ge (tp := tp) (L := L) s
  have hen := en_le (tp := tp) (L := L) hs
  have ed : mem 101 11 - mem 101 12 = nI (en tp L s - s) := by rw [t1, t2]; exact pk_sub hge
  have k1 : tkn tp L s = 1 ↔ srt tp L s = 1 ∧ ¬ nbl tp L s := by
    unfold tkn
    by_cases a : srt tp L s = 0
    · rw [if_pos a]; omega
    · rw [if_neg a]
      by_cases b : srt tp L s = 3
      · rw [if_pos b]; omega
      · rw [if_neg b]
        by_cases c : nbl tp L s
        · rw [if_pos c]; exact ⟨fun z => by omega, fun z => absurd c z.2⟩
        · rw [if_neg c]
          by_cases e : srt tp L s = 1
          · rw [if_pos e]; exact ⟨fun _ => ⟨e, c⟩, fun _ => rfl⟩
          · rw [if_neg e]
            split
            · exact ⟨fun z => by omega, fun z => absurd z.1 e⟩
            · exact ⟨fun z => by omega, fun z => absurd z.1 e⟩
  have k2 : tkn tp L s = 2 ↔ srt tp L s = 2 ∧ ¬ nbl tp L s ∧ en tp L s - s ≤ 4 := by
    unfold tkn
    by_cases a : srt tp L s = 0
    · rw [if_pos a]; omega
    · rw [if_neg a]
      by_cases b : srt tp L s = 3
      · rw [if_pos b]; omega
      · rw [if_neg b]
        by_cases c : nbl tp L s
        · rw [if_pos c]; exact ⟨fun z => by omega, fun z => absurd c z.2.1⟩
        · rw [if_neg c]
          by_cases e : srt tp L s = 1
          · rw [if_pos e]; exact ⟨fun z => by omega, fun z => by omega⟩
          · rw [if_neg e]
            split
            · rename_i g
              exact ⟨fun _ => ⟨by omega, c, g⟩, fun _ => rfl⟩
            · rename_i g
              exact ⟨fun z => by omega, fun z => absurd z.2.2 g⟩
  have c13 : ∀ n, n ≤ 4 → (mem 101 13 = nI n ↔ tkn tp L s = n) := fun n hn => by rw [t3]; exact ixe_iff (by omega) (by omega)
  have p2 : tkn tp L s = 2 → prt tp L key s = some (numF tp s (en tp L s - s)) := fun z => by
    obtain ⟨a, b, c⟩ := k2.mp z
    unfold prt
    rw [if_neg (fun w => b w.1), if_pos a, if_pos c]
  have p1 : tkn tp L s = 1 → prt tp L key s = if en tp L s - s = 1 ∧ 0 ≤ nm key (tp s) then some (10000 + nm key (tp s)) else none := fun z => by
    obtain ⟨a, b⟩ := k1.mp z
    unfold prt
    rw [if_neg (fun w => b w.1), if_neg (by omega), if_pos a]
  have p0 : tkn tp L s ≠ 1 → tkn tp L s ≠ 2 → prt tp L key s = none := fun z1 z2 => by
    unfold prt
    by_cases c : nbl tp L s ∧ srt tp L s ≠ 3
    · rw [if_pos c]
    · rw [if_neg c]
      by_cases a : srt tp L s = 2
      · rw [if_pos a, if_neg (fun w => z2 (k2.mpr ⟨a, fun q => c ⟨q, by omega⟩, w⟩))]
      · rw [if_neg a]
        by_cases b : srt tp L s = 1
        · exact absurd (k1.mpr ⟨b, fun q => c ⟨q, by omega⟩⟩) z1
        · rw [if_neg b]
  have l88 : ∀ v x mem1, prt tp L key s = some v → mem1 = ab_w mem 112 cd.length v → ab_Go l G ol (d + 2) mM_takesPart (ab_mc mM_takesPart) (ab_ms mM_takesPart) (fun r sh rf mem nx _ _ => K r sh rf mem nx) 88 [.ref 101, .int x] [] sh rf mem1 nx 0 0 := by
    intro v x mem1 hv em
    have s0 := (prt_0 hv).1
    refine g_mM_takesPart_88 ⟨i, i, i, i, i, ?_⟩
    have m20 : mem1 101 20 = nI cd.length := by rw [em, ab_w_ne _ _ _ (by decide)]; exact hC.1
    have m21 : mem1 101 21 = nI na := by rw [em, ab_w_ne _ _ _ (by decide)]; exact ha
    rw [m20, nI_1, w_ne _ _ (Or.inr (by decide)), m21, nI_1]
    generalize hm : ab_w (ab_w mem1 101 20 (nI (cd.length + 1))) 101 21 (nI (na + 1)) = mem2
    have o : ∀ a, a ≠ 101 → a ≠ 112 → mem2 a = mem a := fun a a1 a2 => by rw [← hm, ab_w_ne _ _ _ a1, ab_w_ne _ _ _ a1, em, ab_w_ne _ _ _ a2]
    have o1 : ∀ j, j ≠ 20 → j ≠ 21 → mem2 101 j = mem 101 j := fun j j1 j2 => by rw [← hm, w_ne _ _ (Or.inr j2), w_ne _ _ (Or.inr j1), em, ab_w_ne _ _ _ (by decide)]
    have C2 : Cq mem2 (cd ++ [v]) := hC.put (by rw [← hm, ab_w_ne _ _ _ (by decide), ab_w_ne _ _ _ (by decide), em, ab_w_self]) (by rw [← hm, w_ne _ _ (Or.inr (by decide)), w_eq])
    have S2 : Sk mem2 st := hK.same (o 113 (by decide) (by decide)) (o1 23 (by decide) (by decide))
    have F2 : FQ mem mem2 := ⟨fun a a1 a2 _ _ => o a a1 a2, fun j _ j2 j3 _ => o1 j j2 j3⟩
    refine m_settle (d := d) (r := 6) hS (by decide) C2 S2 (by simp; omega) (fun mem3 F3 C3 S3 => ⟨rfl, i, ?_⟩)
    have T3 : TK mem3 tp L s := hT'.same (fun j j1 j2 => by rw [F3.2 j (by omega) (by omega), o1 j (by omega) (by omega)])
    refine m_goK (d := d) hS ((hE'.on F2).on F3.q) T3 hs s0 (fun mem4 F4 T4 => ⟨rfl, Or.inr rfl, h1 v mem4 hv ((F2.trans F3.q).trans F4.q) ?_ T4 (C3.same (F4.1 112 (by decide)) (F4.2 20 (by omega))) (S3.same (F4.1 113 (by decide)) (F4.2 23 (by omega))) ?_⟩)
    · rw [F4.1 114 (by decide), F3.1 114 (by decide) (by decide), o 114 (by decide) (by decide)]
    · rw [F4.2 21 (by omega), F3.2 21 (by decide) (by decide), ← hm, w_eq]
  have vC : vp_in (nI cd.length) 96 := vp_in_nI (by omega) (by decide)
  have l52 : ∀ x v, prt tp L key s = some v → ab_Go l G ol (d + 2) mM_takesPart (ab_mc mM_takesPart) (ab_ms mM_takesPart) (fun r sh rf mem nx _ _ => K r sh rf mem nx) 52 [.ref 101, .int x] [] sh rf mem nx 0 0 := by
    intro x v hv
    refine g_mM_takesPart_52 ⟨i, rd_of hS rfl rfl ⟨i, i, fun q => ⟨i, i, ?_⟩, fun q => ⟨i, is_of hS rfl rfl, ?_⟩⟩⟩
    · have z2 : tkn tp L s ≠ 2 := fun z => q ((c13 2 (by decide)).mpr z)
      have z1 : tkn tp L s = 1 := by
        by_cases z : tkn tp L s = 1
        · exact z
        · rw [p0 z z2] at hv; cases hv
      have e := p1 z1
      rw [hv] at e
      rw [t4 (Or.inr (k1.mp z1).1)]
      refine m_nameOf (d := d + 1) hS e5 e3 ⟨_, rfl, is_of hS rfl rfl, ?_⟩
      rw [hC.1, cl_nI (by omega)]
      refine ⟨in_of (n := 96) hS rfl rfl vC, ?_⟩
      by_cases g : en tp L s - s = 1 ∧ 0 ≤ nm key (tp s)
      · rw [if_pos g] at e
        cases e
        exact l88 _ x _ hv rfl
      · rw [if_neg g] at e; cases e
    · have z2 := (c13 2 (by decide)).mp q
      have e := p2 z2
      rw [hv] at e
      cases e
      rw [hC.1, cl_nI (by omega), t5 (k2.mp z2).1 (k2.mp z2).2.2]
      exact ⟨in_of (n := 96) hS rfl rfl vC, l88 _ x _ hv rfl⟩
  have no : prt tp L key s = none → tkn tp L s ≠ 2 → ab_Go l G ol (d + 2) mM_takesPart (ab_mc mM_takesPart) (ab_ms mM_takesPart) (fun r sh rf mem nx _ _ => K r sh rf mem nx) 38 [.ref 101, .int 0] [] sh rf mem nx 0 0 := fun hv z => g_mM_takesPart_38 ⟨i, fun q => absurd ((c13 2 (by decide)).mp q) z, fun _ => ⟨fun q => absurd rfl q, fun _ => ⟨Or.inl rfl, h0 hv⟩⟩⟩
  refine f_mM_takesPart ⟨i, fun q => ?_, fun q => ⟨i, i, fun g => ?_, fun g => ⟨i, i, ?_⟩⟩⟩
  · have z1 : tkn tp L s ≠ 1 := fun z => q ((c13 1 (by decide)).mpr z)
    by_cases z2 : tkn tp L s = 2
    · exact g_mM_takesPart_38 ⟨i, fun _ => l52 0 _ (p2 z2), fun w => absurd ((c13 2 (by decide)).mpr z2) w⟩
    · exact no (p0 z1 z2) z2
  · have z1 := (c13 1 (by decide)).mp q
    refine no ?_ (by omega)
    rw [p1 z1, if_neg (fun w => g (by rw [ed, w.1]; rfl))]
  · have z1 := (c13 1 (by decide)).mp q
    rw [ed] at g
    have g1 : en tp L s - s = 1 := (ixe_iff (by omega) (by decide)).mp g
    rw [t4 (Or.inr (k1.mp z1).1)]
    refine m_nameOf (d := d + 1) hS e5 e3 ⟨_, rfl, fun w => no ?_ (by omega), fun w => ?_⟩
    · rw [p1 z1, if_neg (fun u => absurd w (Int32.not_lt.mpr u.2))]
    · have hv : prt tp L key s = some (10000 + nm key (tp s)) := by rw [p1 z1, if_pos ⟨g1, Int32.not_lt.mp w⟩]
      exact g_mM_takesPart_38 ⟨i, fun u => absurd ((c13 2 (by decide)).mp u) (by omega), fun _ => ⟨fun _ => l52 1 _ hv, fun u => absurd u (by decide)⟩⟩
end MP
