/-! CLASS: comparisons, pieces; all levels by induction -/
def PcC (l : Launch) (G : ab_G) (ol : ab_Ol) (sh : ab_S) (rf : ab_R) (nx : Nat) (tp : Row) (L key : Nat) (mem0 : ab_N) (d opn nts : Nat) : Prop :=
  ∀ (mem : ab_N) (M : PM) (k : Nat) (st0 : List Int32) (K : ab_K), RM tp L key mem0 mem M.s (M.cd.map enc) M.na → M.w = true → M.st = List.replicate k (-10) ++ st0 → Tp 6 st0 → cO M.st = opn → cN M.st = nts → Bud M →
    (∀ mem' (M' : PM) c', Rch tp L key M M' → M'.cd = c' ++ List.replicate k (-10) → M'.st = st0 → M'.w = false → M'.ts = M.ts → RM tp L key mem0 mem' M'.s (c'.map enc) M'.na → K (some (.int 1)) sh rf mem' nx) →
    (∀ mem' (Mf : PM), Rch tp L key M Mf → Fl tp L key Mf → RF mem0 mem' Mf.s → K (some (.int 0)) sh rf mem' nx) → ab_Cx l G ol d mRe_readPiece [.ref 63, .int (nI opn), .int (nI nts)] sh rf mem nx K
theorem enc_nI {n : Nat} (h : n < 2 ^ 31) : enc (nI n) = nI n := by
  have h0 : (0 : Int32) ≤ nI n := nI_pos' h
  have ne : ∀ v : Int32, ¬ (0 : Int32) ≤ v → ¬ nI n = v := fun v hv q => hv (by rw [← q]; exact h0)
  unfold enc
  rw [if_neg (ne _ (by decide)), if_neg (ne _ (by decide)), if_neg (ne _ (by decide)), if_neg (ne _ (by decide)), if_neg (ne _ (by decide)), if_neg (ne _ (by decide)), if_neg (ne _ (by decide)), if_neg (ne _ (by decide)), if_neg (ne _ (by decide)), if_neg (ne _ (by decide))]
theorem rk_pos (o : Int32) : 1 ≤ rkS o := by
  unfold rkS
  repeat' split
  all_goals omega
section PC
variable {l : Launch} {G : ab_G} {ol : ab_Ol} {sh : ab_S} {rf : ab_R} {mem mem0 : ab_N} {nx : Nat} {tp : Row} {L key : Nat}
theorem lv_readTest (hS : St sh rf nx) {d opn nts : Nat} (hsub : LvC l G ol sh rf nx tp L key mem0 mRe_readSum 4 (d + 2) opn nts) : LvC l G ol sh rf nx tp L key mem0 mRe_readTest 3 (d + 3) opn nts := by
  intro mem M st t tl K hM hw hst hT hts ht hO hN hB h1 h0
  have i := r_is hS
  have t0 := ht (Nat.le_refl _)
  refine e_mRe_readTest ⟨i, hsub mem M st t tl _ hM hw hst (Tp.up hT) hts (fun z => absurd z (by decide)) hO hN hB (fun mem1 M1 P t1 r1 r2 r3 r4 r5 r6 r7 r8 => ⟨_, rfl, fun z => absurd z (by decide), fun _ => ⟨i, ?_⟩⟩) (fun mem1 Mf r1 r2 r3 => ⟨_, rfl, fun _ => ⟨Or.inl rfl, h0 mem1 Mf r1 r2 r3⟩, fun z => absurd rfl z⟩)⟩
  have hsL : M1.s ≤ L := r8.2.2.2.1
  have hL := r8.1.2.2.2.1
  have t1f : t1 = false := (r6 (by decide)).trans t0
  have go : ∀ c, (c = 60 ∨ c = 61 ∨ c = 62) → tsg tp L M1.s = c → (ab_rd (rf 63 0) fun b3 => ab_is sh nx 63 2 ∧ (ab_is sh nx b3 10 ∧ vp_in (mem1 63 5) (sh b3).2 ∧ (ab_is sh nx 63 2 ∧ ab_Cx l G ol (d + 2) mRe_step [.ref 63] sh rf mem1 nx (fun r4 sh4 rf4 mem4 nx4 => r4 = none ∧ (ab_is sh4 nx4 63 2 ∧ ab_Cx l G ol (d + 2) mRe_readSum [.ref 63, .int (nI opn), .int (nI nts)] sh4 rf4 mem4 nx4 (fun r5 sh5 rf5 mem5 nx5 => ∃ x5, r5 = some (.int x5) ∧ (ab_is sh5 nx5 63 2 ∧ ab_Cx l G ol (d + 2) mRe_put [.ref 63, .int ((20000 : Int32) + (mem1 b3 (Int32.toNatClampNeg (mem1 63 5))))] sh5 rf5 mem5 nx5 (fun r6 sh6 rf6 mem6 nx6 => r6 = none ∧ ((x5 = 0 ∨ x5 = 1) ∧ K (some (.int x5)) sh6 rf6 mem6 nx6)))))))))  := by
    intro c hc q
    have s3 : srt tp L M1.s = 3 := tsg_3 q (by rcases hc with rfl | rfl | rfl <;> decide)
    have slt := srt_lt (tp := tp) (L := L) (k := M1.s) (by omega)
    have m5 := r8.2.2.1.1
    have m62 := r8.e.1
    have ec : mem1 62 M1.s = c := by
      rw [m62]
      unfold tsg at q
      rw [if_pos s3] at q
      exact q
    refine rd_of hS rfl rfl ⟨i, is_of hS rfl rfl, in_of (n := 96) hS rfl rfl (by rw [m5]; exact vp_in_nI (by omega) (by decide)), i, ?_⟩
    rw [m5, cl_nI (by omega), ec]
    refine lv_op (r := 3) hS hsub r1 r2 (PR.dn r3) hT r4 r5 q (by rcases hc with rfl | rfl | rfl <;> decide) (by rcases hc with rfl | rfl | rfl <;> decide) (fun z => by rw [t1f] at z; exact absurd z.2 (by decide)) (by rw [q]; rcases hc with rfl | rfl | rfl <;> decide) hO hN hB r8 (by rcases hc with rfl | rfl | rfl <;> decide) (fun mem4 M3 P3 t3 g1 g2 g3 g4 g5 g6 g7 g8 g9 g10 => ⟨Or.inr rfl, h1 mem4 M3 P3 t3 g1 g2 g3 g4 g5 (fun z => absurd z (by decide)) ?_ g10⟩) (fun mem4 Mf g1 g2 g3 => ⟨Or.inl rfl, h0 mem4 Mf g1 g2 g3⟩)
    rcases g8 with z | z | z
    · exact Or.inl z
    · rcases Nat.lt_or_ge (rkS (opOf (tsg tp L M3.s))) 3 with w | w
      · exact Or.inr (Or.inl w)
      · exact Or.inr (Or.inr ⟨by omega, g7 rfl⟩)
    · exact Or.inr (Or.inr z)
  refine r_signM (d := d + 1) hS r8 (by decide) (fun q => ⟨_, rfl, fun _ => ⟨i, go _ (Or.inl rfl) q⟩, fun z => absurd z (by decide)⟩) (fun q1 => ⟨_, rfl, fun z => absurd rfl z, fun _ => ⟨i, ?_⟩⟩)
  refine r_signM (d := d + 1) hS r8 (by decide) (fun q => ⟨_, rfl, fun _ => ⟨i, go _ (Or.inr (Or.inl rfl)) q⟩, fun z => absurd z (by decide)⟩) (fun q2 => ⟨_, rfl, fun z => absurd rfl z, fun _ => ⟨i, ?_⟩⟩)
  refine r_signM (d := d + 1) hS r8 (by decide) (fun q => ⟨_, rfl, fun z => absurd z (by decide), fun _ => ⟨i, go _ (Or.inr (Or.inr rfl)) q⟩⟩) (fun q3 => ⟨_, rfl, fun _ => ⟨Or.inr rfl, h1 mem1 M1 P t1 r1 r2 (PR.dn r3) r4 r5 (fun z => absurd z (by decide)) ?_ r8⟩, fun z => absurd rfl z⟩)
  by_cases z0 : opOf (tsg tp L M1.s) = 0
  · exact Or.inl z0
  · refine nx_dn r7 (fun z => ?_)
    rcases rk_3 z z0 with z | z | z
    · exact q1 z
    · exact q2 z
    · exact q3 z
theorem pc_lv {d opn nts : Nat} (h : PcC l G ol sh rf nx tp L key mem0 d opn nts) : LvC l G ol sh rf nx tp L key mem0 mRe_readPiece 6 d opn nts := by
  intro mem M st t tl K hM hw hst hT hts ht hO hN hB h1 h0
  subst hst
  refine h mem M 0 M.st K hM hw rfl hT hO hN hB (fun mem' M' c' g1 g2 g3 g4 g5 g6 => h1 mem' M' [] t g1 g3 (fun o ho => absurd ho List.not_mem_nil) g4 (g5.trans hts) (fun _ => rfl) ?_ ?_) h0
  · by_cases z : opOf (tsg tp L M'.s) = 0
    · exact Or.inl z
    · exact Or.inr (Or.inl (op_lt6 z).1)
  · rw [List.append_nil, g2]
    rw [show c' ++ List.replicate 0 (-10 : Int32) = c' from List.append_nil c']
    exact g6
theorem pc_step (hS : St sh rf nx) {d opn nts : Nat} (ho8 : opn ≤ 8) (hn8 : nts ≤ 8) (hPc : nts < 8 → PcC l G ol sh rf nx tp L key mem0 (d + 6) opn (nts + 1)) (hOr : opn < 8 → LvC l G ol sh rf nx tp L key mem0 mRe_readOr 1 (d + 6) (opn + 1) nts) : PcC l G ol sh rf nx tp L key mem0 (d + 7) opn nts := by
  intro mem M k st0 K hM hw hst hT hO hN hB h1 h0
  have i := r_is hS
  have hsL : M.s ≤ L := hM.2.2.2.1
  have hL := hM.1.2.2.2.1
  have ht := hM.1.2.2.2.2.2
  have rep : ∀ cd, stl 6 cd (List.replicate k (-10) ++ st0) = (cd ++ List.replicate k (-10), st0) := fun cd => stl_all hT _ cd (fun o h => by rw [(List.mem_replicate.mp h).2]; decide)
  have part : ¬ (tsg tp L M.s = 33 ∧ nts < 8) → ¬ (tsg tp L M.s = 40 ∧ opn < 8) → ab_Cx l G ol (d + 6) mRe_readPart [.ref 63] sh rf mem nx (fun r3 sh3 rf3 mem3 nx3 => ∃ x3, r3 = some (.int x3) ∧ ((x3 = 0 ∨ x3 = 1) ∧ K (some (.int x3)) sh3 rf3 mem3 nx3)) := by
    intro n1 n2
    have hlen : M.cd.length < 96 := by unfold Bud at hB; omega
    refine r_readPart (d := d) hS hM (by rw [List.length_map]; exact hlen) (fun v mem' hv hM2 => ⟨_, rfl, Or.inr rfl, ?_⟩) (fun hv => ⟨_, rfl, Or.inl rfl, h0 mem M (Rch.here M) ⟨?_, fun z => by rw [hw] at z; exact absurd z.1 (by decide)⟩ (hM.f (by rw [List.length_map]; omega))⟩)
    · have hstep : stp tp L key M = some (nxt tp L M.s, (M.cd ++ [v]) ++ List.replicate k (-10), st0, false, M.ts, M.na + 1) := by
        unfold stp
        rw [if_pos hw, if_neg (by rw [hN]; exact n1), if_neg (by rw [hO]; exact n2), hv]
        simp only [hst, rep]
      refine h1 mem' _ (M.cd ++ [v]) (Rch.one hstep) rfl rfl rfl rfl ?_
      rw [List.map_append]
      have ev : enc v = v := by
        rcases (prt_rg ht hv).1 with ⟨n, hn, e⟩ | ⟨n, hn, e, _⟩
        · rw [e]; exact enc_nI (by omega)
        · rw [e]; exact enc_nI (by omega)
      show RM tp L key mem0 mem' (nxt tp L M.s) (M.cd.map enc ++ [enc v]) (M.na + 1)
      rw [ev]
      exact hM2
    · unfold stp
      rw [if_pos hw, if_neg (by rw [hN]; exact n1), if_neg (by rw [hO]; exact n2), hv]
  -- in brackets
  have inBr : ¬ (tsg tp L M.s = 33 ∧ nts < 8) → tsg tp L M.s = 40 → opn < 8 → ab_Cx l G ol (d + 6) mRe_step [.ref 63] sh rf mem nx (fun r5 sh5 rf5 mem5 nx5 => r5 = none ∧ (ab_is sh5 nx5 63 2 ∧ ab_Cx l G ol (d + 6) mRe_readOr [.ref 63, .int (nI opn + (1 : Int32)), .int (nI nts)] sh5 rf5 mem5 nx5 (fun r6 sh6 rf6 mem6 nx6 => ∃ x6, r6 = some (.int x6) ∧ ((x6 = (0 : Int32) → ((0 : Int32) = 0 ∨ (0 : Int32) = 1) ∧ K (some (.int (0 : Int32))) sh6 rf6 mem6 nx6) ∧ (¬ x6 = (0 : Int32) → ab_is sh6 nx6 63 2 ∧ ab_Cx l G ol (d + 6) mRe_isSign [.ref 63, .int ((41 : Int32))] sh6 rf6 mem6 nx6 (fun r7 sh7 rf7 mem7 nx7 => ∃ x7, r7 = some (.int x7) ∧ ((¬ x7 = (0 : Int32) → ab_is sh7 nx7 63 2 ∧ ab_Cx l G ol (d + 6) mRe_step [.ref 63] sh7 rf7 mem7 nx7 (fun r8 sh8 rf8 mem8 nx8 => r8 = none ∧ (((1 : Int32) = 0 ∨ (1 : Int32) = 1) ∧ K (some (.int (1 : Int32))) sh8 rf8 mem8 nx8))) ∧ (x7 = (0 : Int32) → ((0 : Int32) = 0 ∨ (0 : Int32) = 1) ∧ K (some (.int (0 : Int32))) sh7 rf7 mem7 nx7)))))))) := by
    intro n1 e40 o8
    have hstep : stp tp L key M = some (nxt tp L M.s, M.cd, -11 :: M.st, true, false :: M.ts, M.na) := by
      unfold stp
      rw [if_pos hw, if_neg (by rw [hN]; exact n1), if_pos ⟨e40, by rw [hO]; exact o8⟩]
    have hB1 := Bud.on hstep hB
    obtain ⟨M1, hM1e⟩ : ∃ M1 : PM, M1 = (nxt tp L M.s, M.cd, -11 :: M.st, true, false :: M.ts, M.na) := ⟨_, rfl⟩
    rw [← hM1e] at hstep hB1
    have f1 : M1.s = nxt tp L M.s := by rw [hM1e]
    have f2 : M1.cd = M.cd := by rw [hM1e]
    have f3 : M1.st = -11 :: M.st := by rw [hM1e]
    have f4 : M1.w = true := by rw [hM1e]
    have f5 : M1.ts = false :: M.ts := by rw [hM1e]
    have f6 : M1.na = M.na := by rw [hM1e]
    have t11 : ∀ r, Tp r (-11 :: M.st) := fun r o rest e => by cases e; exact Or.inl rfl
    refine r_stepM (d := d + 4) hS hM (fun mem1 hM1 => ⟨rfl, i, ?_⟩)
    rw [nI_1]
    refine hOr o8 mem1 M1 (-11 :: M.st) false M.ts _ (by rw [f1, f2, f6]; exact hM1) f4 f3 (t11 1) f5 (fun _ => rfl) (by unfold cO at hO ⊢; rw [List.count_cons_self, hO]) (by unfold cN at hN ⊢; rw [List.count_cons_of_ne (by decide)]; exact hN) hB1 (fun mem2 M2 P t2 g1 g2 g3 g4 g5 g6 g7 g8 => ⟨_, rfl, fun z => absurd z (by decide), fun _ => ⟨i, ?_⟩⟩) (fun mem2 Mf g1 g2 g3 => ⟨_, rfl, fun _ => ⟨Or.inl rfl, h0 mem2 Mf ((Rch.one hstep).trans g1) g2 g3⟩, fun z => absurd rfl z⟩)
    have hR2 := (Rch.one hstep).trans g1
    have pos : 0 < cO M2.st := by
      rw [g2]
      unfold cO
      rw [List.count_append, List.count_cons_self]
      omega
    have hb2 := Bud.rch g1 hB1
    refine r_signM (d := d + 5) hS g8 (by decide) (fun q => ⟨_, rfl, fun _ => ⟨i, ?_⟩, fun z => absurd z (by decide)⟩) (fun q => ⟨_, rfl, fun z => absurd rfl z, fun _ => ⟨Or.inl rfl, h0 mem2 M2 hR2 ⟨?_, fun z => absurd z.2.2 (by omega)⟩ (g8.f ?_)⟩⟩)
    · have s3 := tsg_3 q (by decide)
      have hstep2 : stp tp L key M2 = some (nxt tp L M2.s, (M2.cd ++ P) ++ List.replicate k (-10), st0, false, M2.ts.tail, M2.na) := by
        unfold stp
        rw [if_neg (by rw [g4]; decide), if_neg (by omega), if_pos ⟨q, pos⟩]
        have e1 : stl 0 M2.cd M2.st = (M2.cd ++ P, -11 :: M.st) := by rw [g2]; exact stl_all (t11 0) P M2.cd (fun o h => ⟨(g3 o h).1, Nat.zero_le _⟩)
        simp only [e1, List.tail_cons, hst, rep]
      refine r_stepM (d := d + 4) hS g8 (fun mem3 hM3 => ⟨rfl, Or.inr rfl, h1 mem3 _ (M2.cd ++ P) (hR2.trans (Rch.one hstep2)) rfl rfl rfl ?_ hM3⟩)
      show M2.ts.tail = M.ts
      rw [g5]; rfl
    · unfold stp
      rw [if_neg (by rw [g4]; decide)]
      by_cases z : srt tp L M2.s = 0
      · rw [if_pos z]
      · rw [if_neg z, if_neg (fun w => q w.1), if_pos]
        rcases g7 with w | w | w
        · exact Or.inl w
        · have := rk_pos (opOf (tsg tp L M2.s)); omega
        · exact Or.inr ⟨w.1, by rw [g5]; exact w.2⟩
    · rw [List.length_map, List.length_append]
      unfold Bud at hb2
      rw [g2, List.length_append] at hb2
      have := g8.2.2.2.1
      omega
  have c8 : ∀ {a : Nat}, a ≤ 8 → ¬ (8 : Int32) ≤ nI a → a < 8 := fun {a} ha h => by
    rcases Nat.lt_or_ge a 8 with z | z
    · exact z
    · exact absurd (nI_le (a := 8) z (by omega)) h
  have c8' : ∀ {a : Nat}, (8 : Int32) ≤ nI a → a ≤ 8 → ¬ a < 8 := fun {a} h ha z => absurd h (nI_ge z (by decide))
  have A : ¬ (tsg tp L M.s = 33 ∧ nts < 8) → ab_Cx l G ol (d + 6) mRe_isSign [.ref 63, .int ((40 : Int32))] sh rf mem nx (fun r2 sh2 rf2 mem2 nx2 => ∃ x2, r2 = some (.int x2) ∧ ((x2 = (0 : Int32) → ab_is sh2 nx2 63 2 ∧ ab_Cx l G ol (d + 6) mRe_readPart [.ref 63] sh2 rf2 mem2 nx2 (fun r3 sh3 rf3 mem3 nx3 => ∃ x3, r3 = some (.int x3) ∧ ((x3 = 0 ∨ x3 = 1) ∧ K (some (.int x3)) sh3 rf3 mem3 nx3))) ∧ (¬ x2 = (0 : Int32) → ((8 : Int32) ≤ nI opn → ab_is sh2 nx2 63 2 ∧ ab_Cx l G ol (d + 6) mRe_readPart [.ref 63] sh2 rf2 mem2 nx2 (fun r4 sh4 rf4 mem4 nx4 => ∃ x4, r4 = some (.int x4) ∧ ((x4 = 0 ∨ x4 = 1) ∧ K (some (.int x4)) sh4 rf4 mem4 nx4))) ∧ (¬ (8 : Int32) ≤ nI opn → ab_is sh2 nx2 63 2 ∧ ab_Cx l G ol (d + 6) mRe_step [.ref 63] sh2 rf2 mem2 nx2 (fun r5 sh5 rf5 mem5 nx5 => r5 = none ∧ (ab_is sh5 nx5 63 2 ∧ ab_Cx l G ol (d + 6) mRe_readOr [.ref 63, .int (nI opn + (1 : Int32)), .int (nI nts)] sh5 rf5 mem5 nx5 (fun r6 sh6 rf6 mem6 nx6 => ∃ x6, r6 = some (.int x6) ∧ ((x6 = (0 : Int32) → ((0 : Int32) = 0 ∨ (0 : Int32) = 1) ∧ K (some (.int (0 : Int32))) sh6 rf6 mem6 nx6) ∧ (¬ x6 = (0 : Int32) → ab_is sh6 nx6 63 2 ∧ ab_Cx l G ol (d + 6) mRe_isSign [.ref 63, .int ((41 : Int32))] sh6 rf6 mem6 nx6 (fun r7 sh7 rf7 mem7 nx7 => ∃ x7, r7 = some (.int x7) ∧ ((¬ x7 = (0 : Int32) → ab_is sh7 nx7 63 2 ∧ ab_Cx l G ol (d + 6) mRe_step [.ref 63] sh7 rf7 mem7 nx7 (fun r8 sh8 rf8 mem8 nx8 => r8 = none ∧ (((1 : Int32) = 0 ∨ (1 : Int32) = 1) ∧ K (some (.int (1 : Int32))) sh8 rf8 mem8 nx8))) ∧ (x7 = (0 : Int32) → ((0 : Int32) = 0 ∨ (0 : Int32) = 1) ∧ K (some (.int (0 : Int32))) sh7 rf7 mem7 nx7)))))))))))) := fun n1 =>
    r_signM (d := d + 5) hS hM (by decide) (fun q => ⟨_, rfl, fun z => absurd z (by decide), fun _ => ⟨fun z => ⟨i, part n1 (fun w => c8' z ho8 w.2)⟩, fun z => ⟨i, inBr n1 q (c8 ho8 z)⟩⟩⟩) (fun q => ⟨_, rfl, fun _ => ⟨i, part n1 (fun w => q w.1)⟩, fun z => absurd rfl z⟩)
  refine e_mRe_readPiece ⟨i, r_signM (d := d + 5) hS hM (by decide) (fun q => ⟨_, rfl, fun z => absurd z (by decide), fun _ => ⟨fun z => ⟨i, A (fun w => c8' z hn8 w.2)⟩, fun z => ⟨i, ?_⟩⟩⟩) (fun q => ⟨_, rfl, fun _ => ⟨i, A (fun w => q w.1)⟩, fun z => absurd rfl z⟩)⟩
  have n8 := c8 hn8 z
  have hstep : stp tp L key M = some (nxt tp L M.s, M.cd, -10 :: M.st, true, M.ts, M.na) := by
    unfold stp
    rw [if_pos hw, if_pos ⟨q, by rw [hN]; exact n8⟩]
  have hB1 := Bud.on hstep hB
  obtain ⟨M1, hM1e⟩ : ∃ M1 : PM, M1 = (nxt tp L M.s, M.cd, -10 :: M.st, true, M.ts, M.na) := ⟨_, rfl⟩
  rw [← hM1e] at hstep hB1
  have f1 : M1.s = nxt tp L M.s := by rw [hM1e]
  have f2 : M1.cd = M.cd := by rw [hM1e]
  have f3 : M1.st = -10 :: M.st := by rw [hM1e]
  have f4 : M1.w = true := by rw [hM1e]
  have f5 : M1.ts = M.ts := by rw [hM1e]
  have f6 : M1.na = M.na := by rw [hM1e]
  refine r_stepM (d := d + 4) hS hM (fun mem1 hM1 => ⟨rfl, i, ?_⟩)
  rw [nI_1]
  refine hPc n8 mem1 M1 (k + 1) st0 _ (by rw [f1, f2, f6]; exact hM1) f4 (by rw [f3, hst]; rfl) hT (by rw [f3]; unfold cO at hO ⊢; rw [List.count_cons_of_ne (by decide)]; exact hO) (by rw [f3]; unfold cN at hN ⊢; rw [List.count_cons_self, hN]) hB1 (fun mem2 M2 c' g1 g2 g3 g4 g5 g6 => ⟨_, rfl, i, ?_⟩) (fun mem2 Mf g1 g2 g3 => ⟨_, rfl, i, r_putF (d := d + 5) hS g3 (fun mem3 g4 => ⟨rfl, Or.inl rfl, h0 mem3 Mf ((Rch.one hstep).trans g1) g2 g4⟩)⟩)
  have hb2 := Bud.rch g1 hB1
  refine r_putM (d := d + 5) hS g6 ?_ (fun mem3 g7 => ⟨rfl, Or.inr rfl, h1 mem3 M2 (c' ++ [-10]) ((Rch.one hstep).trans g1) ?_ g3 g4 (g5.trans f5) ?_⟩)
  · rw [List.length_map]
    unfold Bud at hb2
    rw [g2, List.length_append] at hb2
    have := g6.2.2.2.1
    omega
  · rw [g2, List.append_assoc]; rfl
  · rw [List.map_append]
    exact g7
theorem pc_all (hS : St sh rf nx) : ∀ m e opn nts, opn ≤ 8 → nts ≤ 8 → 16 ≤ opn + nts + m → PcC l G ol sh rf nx tp L key mem0 (6 * m + 8 + e) opn nts := by
  intro m
  induction m with
  | zero =>
    intro e opn nts h1 h2 h3
    have := pc_step (l := l) (G := G) (ol := ol) (tp := tp) (L := L) (key := key) (mem0 := mem0) (d := 1 + e) (opn := opn) (nts := nts) hS h1 h2 (fun z => absurd z (by omega)) (fun z => absurd z (by omega))
    rw [show 6 * 0 + 8 + e = 1 + e + 7 by omega]
    exact this
  | succ m ih =>
    intro e opn nts h1 h2 h3
    rw [show 6 * (m + 1) + 8 + e = (6 * m + 7 + e) + 7 by omega]
    refine pc_step hS h1 h2 (fun z => ?_) (fun z => ?_)
    · have := ih (e + 5) opn (nts + 1) h1 (by omega) (by omega)
      rwa [show 6 * m + 8 + (e + 5) = 6 * m + 7 + e + 6 by omega] at this
    · have p := pc_lv (ih e (opn + 1) nts (by omega) h2 (by omega))
      rw [show 6 * m + 8 + e = (6 * m + 6 + e) + 2 by omega] at p
      have q := lv_readOr (d := 6 * m + 6 + e + 4) hS (lv_readAnd (d := 6 * m + 6 + e + 3) hS (lv_readTest (d := 6 * m + 6 + e + 2) hS (lv_readSum (d := 6 * m + 6 + e + 1) hS (lv_readTerm (d := 6 * m + 6 + e) hS p))))
      rwa [show 6 * m + 6 + e + 4 + 3 = 6 * m + 7 + e + 6 by omega] at q
end PC
