/-! CLASS: the levels of reading, against the reference's way -/
def RF (mem0 mem : ab_N) (s : Nat) : Prop := FR mem0 mem ∧ mem 63 5 = nI s ∧ ∃ n, n ≤ 96 ∧ mem 63 2 = nI n
def LvC (l : Launch) (G : ab_G) (ol : ab_Ol) (sh : ab_S) (rf : ab_R) (nx : Nat) (tp : Row) (L key : Nat) (mem0 : ab_N) (m r d opn nts : Nat) : Prop :=
  ∀ (mem : ab_N) (M : PM) (st : List Int32) (t : Bool) (tl : List Bool) (K : ab_K), RM tp L key mem0 mem M.s (M.cd.map enc) M.na → M.w = true → M.st = st → Tp r st → M.ts = t :: tl → (r ≤ 3 → t = false) → cO st = opn → cN st = nts → Bud M →
    (∀ mem' (M' : PM) P t', Rch tp L key M M' → M'.st = P ++ st → PR r P → M'.w = false → M'.ts = t' :: tl → (4 ≤ r → t' = t) → Nx tp L r M'.s t' → RM tp L key mem0 mem' M'.s ((M'.cd ++ P).map enc) M'.na → K (some (.int 1)) sh rf mem' nx) →
    (∀ mem' (Mf : PM), Rch tp L key M Mf → Fl tp L key Mf → RF mem0 mem' Mf.s → K (some (.int 0)) sh rf mem' nx) → ab_Cx l G ol d m [.ref 63, .int (nI opn), .int (nI nts)] sh rf mem nx K
theorem rk_1 {c : Int32} (h : rkS (opOf c) = 1) : c = 124 := by
  unfold opOf at h
  split at h
  · assumption
  · exfalso
    repeat' split at h
    all_goals exact absurd h (by decide)
theorem rk_2 {c : Int32} (h : rkS (opOf c) = 2) : c = 38 := by
  unfold opOf at h
  split at h
  · exact absurd h (by decide)
  · split at h
    · assumption
    · exfalso
      repeat' split at h
      all_goals exact absurd h (by decide)
theorem rk_5 {c : Int32} (h : rkS (opOf c) = 5) : c = 42 ∨ c = 47 := by
  unfold opOf at h
  repeat' split at h
  all_goals first | exact Or.inl (by assumption) | exact Or.inr (by assumption) | exact absurd h (by decide)
theorem rk_4 {c : Int32} (h : rkS (opOf c) = 4) : c = 43 ∨ c = 45 := by
  unfold opOf at h
  repeat' split at h
  all_goals first | exact Or.inl (by assumption) | exact Or.inr (by assumption) | exact absurd h (by decide)
theorem rk_3 {c : Int32} (h : rkS (opOf c) = 3) (h0 : opOf c ≠ 0) : c = 60 ∨ c = 61 ∨ c = 62 := by
  unfold opOf at h h0
  repeat' split at h
  all_goals first | exact Or.inl (by assumption) | exact Or.inr (Or.inl (by assumption)) | exact Or.inr (Or.inr (by assumption)) | exact absurd h (by decide) | skip
  all_goals (exfalso; apply h0; simp [*])
theorem rk_le (o : Int32) : rkS o ≤ 6 := by
  unfold rkS
  repeat' split
  all_goals omega
theorem op_lt6 {c : Int32} (h : opOf c ≠ 0) : rkS (opOf c) < 6 ∧ opOf c ≠ -10 ∧ opOf c ≠ -11 := by
  unfold opOf at h ⊢
  repeat' split
  all_goals first | decide | (exfalso; apply h; simp [*])
section LV
variable {l : Launch} {G : ab_G} {ol : ab_Ol} {sh : ab_S} {rf : ab_R} {mem mem0 : ab_N} {nx : Nat} {K : ab_K} {tp : Row} {L key : Nat}
theorem nx_0 {s : Nat} (h : srt tp L s = 0) : opOf (tsg tp L s) = 0 := by
  unfold tsg
  rw [if_neg (by omega)]; decide
theorem nx_dn {r s : Nat} {t : Bool} (h : Nx tp L (r + 1) s t) (hn : rkS (opOf (tsg tp L s)) = r → False) : Nx tp L r s t := by
  rcases h with h | h | h
  · exact Or.inl h
  · exact Or.inr (Or.inl (by have : rkS (opOf (tsg tp L s)) ≠ r := hn; omega))
  · exact Or.inr (Or.inr h)
theorem Tp.up {r : Nat} {st : List Int32} (h : Tp r st) : Tp (r + 1) st := fun o rest e => (h o rest e).imp id (fun z => by omega)
theorem PR.dn {r : Nat} {P : List Int32} (h : PR (r + 1) P) : PR r P := fun o ho => ⟨(h o ho).1, (h o ho).2.1, by have := (h o ho).2.2; omega⟩
theorem r_signM {d s na : Nat} {cd : List Int32} {c : Int32} (hS : St sh rf nx) (hM : RM tp L key mem0 mem s cd na) (hc : c ≠ -1) (h1 : tsg tp L s = c → K (some (.int 1)) sh rf mem nx) (h0 : tsg tp L s ≠ c → K (some (.int 0)) sh rf mem nx) : ab_Cx l G ol (d + 1) mRe_isSign [.ref 63, .int c] sh rf mem nx K := by
  have e := hM.e
  have e1 := e.1
  subst e1
  exact r_isSign hS e.2.2.2.1 hM.2.2.1 hc h1 h0
theorem r_stepM {d s na : Nat} {cd : List Int32} (hS : St sh rf nx) (hM : RM tp L key mem0 mem s cd na) (h : ∀ mem', RM tp L key mem0 mem' (nxt tp L s) cd na → K none sh rf mem' nx) : ab_Cx l G ol (d + 2) mRe_step [.ref 63] sh rf mem nx K := by
  have e := hM.e
  obtain ⟨hE, hF, hR, hs, hC, hP⟩ := hM
  have e1 := e.1
  subst e1
  refine r_step hS e.2.2.2.1 (en_le hs) e.2.1 hR.2.1 (fun mem' F1 F2 hR2 => h mem' ⟨hE, ⟨fun a a1 a2 => ?_, ?_, ?_⟩, hR2, nxt_le hs, ⟨?_, fun k hk => ?_⟩, ?_⟩)
  · rw [F1 a a1]; exact hF.1 a a1 a2
  · rw [F2 4 (by decide) (by decide) (by decide)]; exact hF.2.1
  · rw [F2 8 (by decide) (by decide) (by decide)]; exact hF.2.2
  · rw [F2 2 (by decide) (by decide) (by decide)]; exact hC.1
  · rw [F1 64 (by decide)]; exact hC.2 k hk
  · rw [F2 3 (by decide) (by decide) (by decide)]; exact hP
theorem r_putM {d s na : Nat} {cd : List Int32} {v : Int32} (hS : St sh rf nx) (hM : RM tp L key mem0 mem s cd na) (hc : cd.length < 96) (h : ∀ mem', RM tp L key mem0 mem' s (cd ++ [v]) na → K none sh rf mem' nx) : ab_Cx l G ol (d + 1) mRe_put [.ref 63, .int v] sh rf mem nx K := by
  obtain ⟨hE, hF, hR, hs, hC, hP⟩ := hM
  refine r_put hS hC.1 (by omega) (fun _ => h _ ⟨hE, ⟨fun a a1 a2 => ?_, ?_, ?_⟩, ⟨?_, ?_, ?_⟩, hs, hC.put, ?_⟩) (fun z => by omega)
  · rw [ab_w_ne _ _ _ a1, ab_w_ne _ _ _ a2]; exact hF.1 a a1 a2
  · rw [w_ne _ _ (Or.inr (by decide)), ab_w_ne _ _ _ (by decide)]; exact hF.2.1
  · rw [w_ne _ _ (Or.inr (by decide)), ab_w_ne _ _ _ (by decide)]; exact hF.2.2
  · rw [w_ne _ _ (Or.inr (by decide)), ab_w_ne _ _ _ (by decide)]; exact hR.1
  · rw [w_ne _ _ (Or.inr (by decide)), ab_w_ne _ _ _ (by decide)]; exact hR.2.1
  · rw [w_ne _ _ (Or.inr (by decide)), ab_w_ne _ _ _ (by decide)]; exact hR.2.2
  · rw [w_ne _ _ (Or.inr (by decide)), ab_w_ne _ _ _ (by decide)]; exact hP
theorem r_putF {d s : Nat} {v : Int32} (hS : St sh rf nx) (hM : RF mem0 mem s) (h : ∀ mem', RF mem0 mem' s → K none sh rf mem' nx) : ab_Cx l G ol (d + 1) mRe_put [.ref 63, .int v] sh rf mem nx K := by
  have hM' := hM
  obtain ⟨hF, h5, n, hn, h2⟩ := hM
  refine r_put hS h2 hn (fun z => h _ ⟨⟨fun a a1 a2 => ?_, ?_, ?_⟩, ?_, n + 1, by omega, by rw [w_eq]⟩) (fun _ => h mem hM')
  · rw [ab_w_ne _ _ _ a1, ab_w_ne _ _ _ a2]; exact hF.1 a a1 a2
  · rw [w_ne _ _ (Or.inr (by decide)), ab_w_ne _ _ _ (by decide)]; exact hF.2.1
  · rw [w_ne _ _ (Or.inr (by decide)), ab_w_ne _ _ _ (by decide)]; exact hF.2.2
  · rw [w_ne _ _ (Or.inr (by decide)), ab_w_ne _ _ _ (by decide)]; exact h5
theorem RM.f {s na : Nat} {cd : List Int32} (h : RM tp L key mem0 mem s cd na) (hc : cd.length ≤ 96) : RF mem0 mem s := ⟨h.2.1, h.2.2.1.1, cd.length, hc, h.2.2.2.2.1.1⟩
/-- a sign between two pieces: it is stepped over, the next piece is read, the sign is put -/
theorem lv_op (hS : St sh rf nx) {m' r d opn nts : Nat} (hsub : LvC l G ol sh rf nx tp L key mem0 m' (r + 1) (d + 2) opn nts) {M M1 : PM} {st P : List Int32} {t1 : Bool} {tl : List Bool} {c V : Int32} {mem1 : ab_N} {Z : Int32 → ab_S → ab_R → ab_N → Nat → Prop} (hMM : Rch tp L key M M1) (hst : M1.st = P ++ st) (hP : PR r P) (hT : Tp r st) (hw : M1.w = false) (hts : M1.ts = t1 :: tl) (hc : tsg tp L M1.s = c) (hr : rkS (opOf c) = r) (ho : opOf c ≠ 0) (h3 : ¬ (r = 3 ∧ t1 = true)) (h41 : tsg tp L M1.s ≠ 41) (hO : cO st = opn) (hN : cN st = nts) (hB : Bud M) (hM1 : RM tp L key mem0 mem1 M1.s ((M1.cd ++ P).map enc) M1.na) (hV : V = enc (opOf c))
    (h1 : ∀ mem4 (M3 : PM) P3 t3, Rch tp L key M M3 → M3.st = P3 ++ st → PR r P3 → M3.w = false → M3.ts = t3 :: tl → (4 ≤ r → t3 = t1) → (r = 3 → t3 = true) → Nx tp L (r + 1) M3.s t3 → M1.s < M3.s → RM tp L key mem0 mem4 M3.s ((M3.cd ++ P3).map enc) M3.na → Z 1 sh rf mem4 nx)
    (h0 : ∀ mem4 (Mf : PM), Rch tp L key M Mf → Fl tp L key Mf → RF mem0 mem4 Mf.s → Z 0 sh rf mem4 nx) :
    ab_Cx l G ol (d + 2) mRe_step [.ref 63] sh rf mem1 nx (fun r2 sh2 rf2 mem2 nx2 => r2 = none ∧ (ab_is sh2 nx2 63 2 ∧ ab_Cx l G ol (d + 2) m' [.ref 63, .int (nI opn), .int (nI nts)] sh2 rf2 mem2 nx2 (fun r3 sh3 rf3 mem3 nx3 => ∃ x3, r3 = some (.int x3) ∧ (ab_is sh3 nx3 63 2 ∧ ab_Cx l G ol (d + 2) mRe_put [.ref 63, .int V] sh3 rf3 mem3 nx3 (fun r4 sh4 rf4 mem4 nx4 => r4 = none ∧ Z x3 sh4 rf4 mem4 nx4))))) := by
  have i := r_is hS
  have ho' : opOf (tsg tp L M1.s) ≠ 0 := by rw [hc]; exact ho
  have hstep := stp_op (key := key) hw hst hP hT hts ho' (by rw [hc]; exact hr) h3 h41
  rw [hc] at hstep
  obtain ⟨o6, o10, o11⟩ := op_lt6 ho
  have hlt := nxt_gt (tp := tp) (L := L) (s := M1.s) (by rw [op_3 ho']; decide)
  have hB2 := Bud.on hstep (Bud.rch hMM hB)
  refine r_stepM hS hM1 (fun mem2 hM2 => ⟨rfl, i, ?_⟩)
  obtain ⟨M2, hM2e⟩ : ∃ M2 : PM, M2 = (nxt tp L M1.s, M1.cd ++ P, opOf c :: st, true, (decide (r = 3) || (decide (3 < r) && t1)) :: tl, M1.na) := ⟨_, rfl⟩
  rw [← hM2e] at hstep hB2
  have f1 : M2.s = nxt tp L M1.s := by rw [hM2e]
  have f2 : M2.cd = M1.cd ++ P := by rw [hM2e]
  have f3 : M2.st = opOf c :: st := by rw [hM2e]
  have f4 : M2.w = true := by rw [hM2e]
  have f5 : M2.ts = (decide (r = 3) || (decide (3 < r) && t1)) :: tl := by rw [hM2e]
  have f6 : M2.na = M1.na := by rw [hM2e]
  have hR2 : Rch tp L key M M2 := hMM.trans (Rch.one hstep)
  refine hsub mem2 M2 (opOf c :: st) _ tl _ (by rw [f1, f2, f6]; exact hM2) f4 f3 (fun o rest e => ?_) f5 (fun z => ?_) ?_ ?_ hB2 (fun mem3 M3 P3 t3 g1 g2 g3 g4 g5 g6 g7 g8 => ⟨_, rfl, i, ?_⟩) (fun mem3 Mf g1 g2 g3 => ⟨_, rfl, i, r_putF (d := d + 1) hS g3 (fun mem4 g4 => ⟨rfl, h0 mem4 Mf (hR2.trans g1) g2 g4⟩)⟩)
  · cases e; exact Or.inr (by omega)
  · have : ¬ r = 3 := by omega
    have : ¬ 3 < r := by omega
    simp [*]
  · unfold cO at hO ⊢; rw [List.count_cons_of_ne o11]; exact hO
  · unfold cN at hN ⊢; rw [List.count_cons_of_ne o10]; exact hN
  · have hb3 := Bud.rch g1 hB2
    have hs3 := g8.2.2.2.1
    have hL := g8.1.2.2.2.1
    unfold Bud at hb3
    rw [g2] at hb3
    refine r_putM (d := d + 1) hS g8 (by rw [List.length_map, List.length_append]; simp at hb3; omega) (fun mem4 g9 => ⟨rfl, h1 mem4 M3 (P3 ++ [opOf c]) t3 (hR2.trans g1) (by rw [g2]; simp) (fun o ho2 => ?_) g4 g5 (fun z => ?_) (fun z => ?_) g7 ?_ ?_⟩)
    · rcases List.mem_append.mp ho2 with q | q
      · have := g3 o q; exact ⟨this.1, this.2.1, by omega⟩
      · rw [List.mem_singleton.mp q]; exact ⟨o11, o10, by omega⟩
    · rw [g6 (by omega)]
      have : ¬ r = 3 := by omega
      have : 3 < r := by omega
      simp [*]
    · rw [g6 (by omega)]; simp [z]
    · have := g1.sle
      omega
    · rw [← List.append_assoc, List.map_append (l₂ := [opOf c])]
      rw [hV] at g9
      exact g9
theorem lv_readOr (hS : St sh rf nx) {d opn nts : Nat} (hsub : LvC l G ol sh rf nx tp L key mem0 mRe_readAnd (1 + 1) (d + 2) opn nts) : LvC l G ol sh rf nx tp L key mem0 mRe_readOr 1 (d + 3) opn nts := by
  intro mem M st t tl K hM hw hst hT hts ht hO hN hB h1 h0
  have i := r_is hS
  have loop : ∀ n mem1 M1 P t1 j, L - M1.s ≤ n → j ≤ M1.s → Rch tp L key M M1 → M1.st = P ++ st → PR 1 P → M1.w = false → M1.ts = t1 :: tl → (4 ≤ 1 → t1 = t) → Nx tp L (1 + 1) M1.s t1 → RM tp L key mem0 mem1 M1.s ((M1.cd ++ P).map enc) M1.na → ab_Go l G ol (d + 2) mRe_readOr (ab_mc mRe_readOr) (ab_ms mRe_readOr) (fun r sh rf mem nx _ _ => K r sh rf mem nx) 10 [.ref 63, .int (nI opn), .int (nI nts), .int 1, .int (nI j)] [] sh rf mem1 nx 0 0 := by
    intro n
    induction n with
    | zero =>
      intro mem1 M1 P t1 j hn hj hR1 e1 hP ew ets h4 hX hM1
      have z : srt tp L M1.s = 0 := srt_ge (by omega)
      have fin : K (some (.int 1)) sh rf mem1 nx := h1 mem1 M1 P t1 hR1 e1 hP ew ets h4 (Or.inl (nx_0 z)) hM1
      refine h_mRe_readOr_10 ⟨fun _ => ⟨Or.inr rfl, fin⟩, fun _ => ⟨fun q => absurd q (by decide), fun _ => ⟨i, r_signM (d := d + 1) hS hM1 (by decide) (fun q => ?_) (fun q => ⟨_, rfl, fun _ => ⟨Or.inr rfl, fin⟩, fun z => absurd rfl z⟩)⟩⟩⟩
      exact absurd (tsg_3 q (by decide)) (by omega)
    | succ n ih =>
      intro mem1 M1 P t1 j hn hj hR1 e1 hP ew ets h4 hX hM1
      rcases Nat.lt_or_ge j 96 with g | g
      · refine h_mRe_readOr_10 ⟨fun q => absurd q (nI_ge g (by decide)), fun _ => ⟨fun q => absurd q (by decide), fun _ => ⟨i, r_signM (d := d + 1) hS hM1 (by decide) (fun q => ⟨_, rfl, fun z => absurd z (by decide), fun _ => ⟨i, ?_⟩⟩) (fun q => ⟨_, rfl, fun _ => ⟨Or.inr rfl, h1 mem1 M1 P t1 hR1 e1 hP ew ets h4 ?_ hM1⟩, fun z => absurd rfl z⟩)⟩⟩⟩
        · refine lv_op hS hsub hR1 e1 hP hT ew ets q (by decide) (by decide) (fun z => absurd z.1 (by decide)) (by rw [q]; decide) hO hN hB hM1 (by decide) (fun mem4 M3 P3 t3 r1 r2 r3 r4 r5 r6 r7 r8 r9 r10 => ?_) (fun mem4 Mf r1 r2 r3 => ?_)
          · rw [nI_1]
            exact ih mem4 M3 P3 t3 (j + 1) (by omega) (by omega) r1 r2 r3 r4 r5 (fun z => absurd z (by decide)) r8 r10
          · exact h_mRe_readOr_10 ⟨fun _ => ⟨Or.inl rfl, h0 mem4 Mf r1 r2 r3⟩, fun _ => ⟨fun _ => ⟨Or.inl rfl, h0 mem4 Mf r1 r2 r3⟩, fun z => absurd rfl z⟩⟩
        · exact nx_dn hX (fun z => q (rk_1 z))
      · have hsL : M1.s ≤ L := hM1.2.2.2.1
        have hL := hM1.1.2.2.2.1
        have z : srt tp L M1.s = 0 := srt_ge (by omega)
        exact h_mRe_readOr_10 ⟨fun _ => ⟨Or.inr rfl, h1 mem1 M1 P t1 hR1 e1 hP ew ets h4 (Or.inl (nx_0 z)) hM1⟩, fun q => absurd (nI_le (a := 96) g (by have := hM1.2.2.2.1; omega)) q⟩
  refine e_mRe_readOr ⟨i, hsub mem M st t tl _ hM hw hst (Tp.up hT) hts (fun z => ht (by omega)) hO hN hB (fun mem1 M1 P t1 r1 r2 r3 r4 r5 r6 r7 r8 => ⟨_, rfl, loop L mem1 M1 P t1 0 (by omega) (Nat.zero_le _) r1 r2 (PR.dn r3) r4 r5 (fun z => absurd z (by decide)) r7 r8⟩) (fun mem1 Mf r1 r2 r3 => ⟨_, rfl, h_mRe_readOr_10 ⟨fun q => absurd q (by decide), fun _ => ⟨fun _ => ⟨Or.inl rfl, h0 mem1 Mf r1 r2 r3⟩, fun z => absurd rfl z⟩⟩⟩)⟩
theorem lv_readAnd (hS : St sh rf nx) {d opn nts : Nat} (hsub : LvC l G ol sh rf nx tp L key mem0 mRe_readTest (2 + 1) (d + 2) opn nts) : LvC l G ol sh rf nx tp L key mem0 mRe_readAnd 2 (d + 3) opn nts := by
  intro mem M st t tl K hM hw hst hT hts ht hO hN hB h1 h0
  have i := r_is hS
  have loop : ∀ n mem1 M1 P t1 j, L - M1.s ≤ n → j ≤ M1.s → Rch tp L key M M1 → M1.st = P ++ st → PR 2 P → M1.w = false → M1.ts = t1 :: tl → (4 ≤ 2 → t1 = t) → Nx tp L (2 + 1) M1.s t1 → RM tp L key mem0 mem1 M1.s ((M1.cd ++ P).map enc) M1.na → ab_Go l G ol (d + 2) mRe_readAnd (ab_mc mRe_readAnd) (ab_ms mRe_readAnd) (fun r sh rf mem nx _ _ => K r sh rf mem nx) 10 [.ref 63, .int (nI opn), .int (nI nts), .int 1, .int (nI j)] [] sh rf mem1 nx 0 0 := by
    intro n
    induction n with
    | zero =>
      intro mem1 M1 P t1 j hn hj hR1 e1 hP ew ets h4 hX hM1
      have z : srt tp L M1.s = 0 := srt_ge (by omega)
      have fin : K (some (.int 1)) sh rf mem1 nx := h1 mem1 M1 P t1 hR1 e1 hP ew ets h4 (Or.inl (nx_0 z)) hM1
      refine h_mRe_readAnd_10 ⟨fun _ => ⟨Or.inr rfl, fin⟩, fun _ => ⟨fun q => absurd q (by decide), fun _ => ⟨i, r_signM (d := d + 1) hS hM1 (by decide) (fun q => ?_) (fun q => ⟨_, rfl, fun _ => ⟨Or.inr rfl, fin⟩, fun z => absurd rfl z⟩)⟩⟩⟩
      exact absurd (tsg_3 q (by decide)) (by omega)
    | succ n ih =>
      intro mem1 M1 P t1 j hn hj hR1 e1 hP ew ets h4 hX hM1
      rcases Nat.lt_or_ge j 96 with g | g
      · refine h_mRe_readAnd_10 ⟨fun q => absurd q (nI_ge g (by decide)), fun _ => ⟨fun q => absurd q (by decide), fun _ => ⟨i, r_signM (d := d + 1) hS hM1 (by decide) (fun q => ⟨_, rfl, fun z => absurd z (by decide), fun _ => ⟨i, ?_⟩⟩) (fun q => ⟨_, rfl, fun _ => ⟨Or.inr rfl, h1 mem1 M1 P t1 hR1 e1 hP ew ets h4 ?_ hM1⟩, fun z => absurd rfl z⟩)⟩⟩⟩
        · refine lv_op hS hsub hR1 e1 hP hT ew ets q (by decide) (by decide) (fun z => absurd z.1 (by decide)) (by rw [q]; decide) hO hN hB hM1 (by decide) (fun mem4 M3 P3 t3 r1 r2 r3 r4 r5 r6 r7 r8 r9 r10 => ?_) (fun mem4 Mf r1 r2 r3 => ?_)
          · rw [nI_1]
            exact ih mem4 M3 P3 t3 (j + 1) (by omega) (by omega) r1 r2 r3 r4 r5 (fun z => absurd z (by decide)) r8 r10
          · exact h_mRe_readAnd_10 ⟨fun _ => ⟨Or.inl rfl, h0 mem4 Mf r1 r2 r3⟩, fun _ => ⟨fun _ => ⟨Or.inl rfl, h0 mem4 Mf r1 r2 r3⟩, fun z => absurd rfl z⟩⟩
        · exact nx_dn hX (fun z => q (rk_2 z))
      · have hsL : M1.s ≤ L := hM1.2.2.2.1
        have hL := hM1.1.2.2.2.1
        have z : srt tp L M1.s = 0 := srt_ge (by omega)
        exact h_mRe_readAnd_10 ⟨fun _ => ⟨Or.inr rfl, h1 mem1 M1 P t1 hR1 e1 hP ew ets h4 (Or.inl (nx_0 z)) hM1⟩, fun q => absurd (nI_le (a := 96) g (by have := hM1.2.2.2.1; omega)) q⟩
  refine e_mRe_readAnd ⟨i, hsub mem M st t tl _ hM hw hst (Tp.up hT) hts (fun z => ht (by omega)) hO hN hB (fun mem1 M1 P t1 r1 r2 r3 r4 r5 r6 r7 r8 => ⟨_, rfl, loop L mem1 M1 P t1 0 (by omega) (Nat.zero_le _) r1 r2 (PR.dn r3) r4 r5 (fun z => absurd z (by decide)) r7 r8⟩) (fun mem1 Mf r1 r2 r3 => ⟨_, rfl, h_mRe_readAnd_10 ⟨fun q => absurd q (by decide), fun _ => ⟨fun _ => ⟨Or.inl rfl, h0 mem1 Mf r1 r2 r3⟩, fun z => absurd rfl z⟩⟩⟩)⟩
theorem lv_readSum (hS : St sh rf nx) {d opn nts : Nat} (hsub : LvC l G ol sh rf nx tp L key mem0 mRe_readTerm (4 + 1) (d + 2) opn nts) : LvC l G ol sh rf nx tp L key mem0 mRe_readSum 4 (d + 3) opn nts := by
  intro mem M st t tl K hM hw hst hT hts ht hO hN hB h1 h0
  have i := r_is hS
  have loop : ∀ n mem1 M1 P t1 j (u5 : Value), L - M1.s ≤ n → j ≤ M1.s → Rch tp L key M M1 → M1.st = P ++ st → PR 4 P → M1.w = false → M1.ts = t1 :: tl → t1 = t → Nx tp L (4 + 1) M1.s t1 → RM tp L key mem0 mem1 M1.s ((M1.cd ++ P).map enc) M1.na → ab_Go l G ol (d + 2) mRe_readSum (ab_mc mRe_readSum) (ab_ms mRe_readSum) (fun r sh rf mem nx _ _ => K r sh rf mem nx) 10 [.ref 63, .int (nI opn), .int (nI nts), .int 1, .int (nI j), u5] [] sh rf mem1 nx 0 0 := by
    intro n
    induction n with
    | zero =>
      intro mem1 M1 P t1 j u5 hn hj hR1 e1 hP ew ets h4 hX hM1
      have z : srt tp L M1.s = 0 := srt_ge (by omega)
      have fin : K (some (.int 1)) sh rf mem1 nx := h1 mem1 M1 P t1 hR1 e1 hP ew ets (fun _ => h4) (Or.inl (nx_0 z)) hM1
      refine h_mRe_readSum_10 ⟨fun _ => ⟨Or.inr rfl, fin⟩, fun _ => ⟨fun q => absurd q (by decide), fun _ => ⟨i, r_signM (d := d + 1) hS hM1 (by decide) (fun q => absurd (tsg_3 q (by decide)) (by omega)) (fun q => ⟨_, rfl, fun z => absurd rfl z, fun _ => ⟨i, r_signM (d := d + 1) hS hM1 (by decide) (fun q => absurd (tsg_3 q (by decide)) (by omega)) (fun q => ⟨_, rfl, fun _ => ⟨Or.inr rfl, fin⟩, fun z => absurd rfl z⟩)⟩⟩)⟩⟩⟩
    | succ n ih =>
      intro mem1 M1 P t1 j u5 hn hj hR1 e1 hP ew ets h4 hX hM1
      have hsL : M1.s ≤ L := hM1.2.2.2.1
      have hL := hM1.1.2.2.2.1
      rcases Nat.lt_or_ge j 96 with g | g
      · have go : ∀ c, (c = 43 ∨ c = 45) → tsg tp L M1.s = c → (ab_rd (rf 63 0) fun b2 => ab_is sh nx 63 2 ∧ (ab_is sh nx b2 10 ∧ vp_in (mem1 63 5) (sh b2).2 ∧ (ab_is sh nx 63 2 ∧ ab_Cx l G ol (d + 2) mRe_step [.ref 63] sh rf mem1 nx (fun r3 sh3 rf3 mem3 nx3 => r3 = none ∧ (ab_is sh3 nx3 63 2 ∧ ab_Cx l G ol (d + 2) mRe_readTerm [.ref 63, .int (nI opn), .int (nI nts)] sh3 rf3 mem3 nx3 (fun r4 sh4 rf4 mem4 nx4 => ∃ x4, r4 = some (.int x4) ∧ (ab_is sh4 nx4 63 2 ∧ ab_Cx l G ol (d + 2) mRe_put [.ref 63, .int ((20000 : Int32) + (mem1 b2 (Int32.toNatClampNeg (mem1 63 5))))] sh4 rf4 mem4 nx4 (fun r5 sh5 rf5 mem5 nx5 => r5 = none ∧ (ab_Go l G ol (d + 2) mRe_readSum (ab_mc mRe_readSum) (ab_ms mRe_readSum) (fun r sh rf mem nx _ _ => K r sh rf mem nx) 10 [.ref 63, .int (nI opn), .int (nI nts), .int x4, .int (nI j + (1 : Int32)), .int (mem1 b2 (Int32.toNatClampNeg (mem1 63 5)))] [] sh5 rf5 mem5 nx5 0 0)))))))))  := by
          intro c hc q
          have s3 : srt tp L M1.s = 3 := tsg_3 q (by rcases hc with rfl | rfl <;> decide)
          have slt := srt_lt (tp := tp) (L := L) (k := M1.s) (by omega)
          have m5 := hM1.2.2.1.1
          have m62 := hM1.e.1
          have ec : mem1 62 M1.s = c := by
            rw [m62]
            unfold tsg at q
            rw [if_pos s3] at q
            exact q
          refine rd_of hS rfl rfl ⟨i, is_of hS rfl rfl, in_of (n := 96) hS rfl rfl (by rw [m5]; exact vp_in_nI (by omega) (by decide)), i, ?_⟩
          rw [m5, cl_nI (by omega), ec]
          refine lv_op hS hsub hR1 e1 hP hT ew ets q (by rcases hc with rfl | rfl <;> decide) (by rcases hc with rfl | rfl <;> decide) (fun z => absurd z.1 (by decide)) (by rw [q]; rcases hc with rfl | rfl <;> decide) hO hN hB hM1 (by rcases hc with rfl | rfl <;> decide) (fun mem4 M3 P3 t3 r1 r2 r3 r4 r5 r6 r7 r8 r9 r10 => ?_) (fun mem4 Mf r1 r2 r3 => ?_)
          · rw [nI_1]
            exact ih mem4 M3 P3 t3 (j + 1) _ (by omega) (by omega) r1 r2 r3 r4 r5 ((r6 (by decide)).trans h4) r8 r10
          · exact h_mRe_readSum_10 ⟨fun _ => ⟨Or.inl rfl, h0 mem4 Mf r1 r2 r3⟩, fun _ => ⟨fun _ => ⟨Or.inl rfl, h0 mem4 Mf r1 r2 r3⟩, fun z => absurd rfl z⟩⟩
        refine h_mRe_readSum_10 ⟨fun q => absurd q (nI_ge g (by decide)), fun _ => ⟨fun q => absurd q (by decide), fun _ => ⟨i, r_signM (d := d + 1) hS hM1 (by decide) (fun q => ⟨_, rfl, fun _ => ⟨i, go _ (Or.inl rfl) q⟩, fun z => absurd z (by decide)⟩) (fun q => ⟨_, rfl, fun z => absurd rfl z, fun _ => ⟨i, r_signM (d := d + 1) hS hM1 (by decide) (fun q2 => ⟨_, rfl, fun z => absurd z (by decide), fun _ => ⟨i, go _ (Or.inr rfl) q2⟩⟩) (fun q2 => ⟨_, rfl, fun _ => ⟨Or.inr rfl, h1 mem1 M1 P t1 hR1 e1 hP ew ets (fun _ => h4) ?_ hM1⟩, fun z => absurd rfl z⟩)⟩⟩)⟩⟩⟩
        refine nx_dn hX (fun z => ?_)
        rcases rk_4 z with z | z
        · exact q z
        · exact q2 z
      · have z : srt tp L M1.s = 0 := srt_ge (by omega)
        exact h_mRe_readSum_10 ⟨fun _ => ⟨Or.inr rfl, h1 mem1 M1 P t1 hR1 e1 hP ew ets (fun _ => h4) (Or.inl (nx_0 z)) hM1⟩, fun q => absurd (nI_le (a := 96) g (by omega)) q⟩
  refine e_mRe_readSum ⟨i, hsub mem M st t tl _ hM hw hst (Tp.up hT) hts (fun z => absurd z (by decide)) hO hN hB (fun mem1 M1 P t1 r1 r2 r3 r4 r5 r6 r7 r8 => ⟨_, rfl, loop L mem1 M1 P t1 0 _ (by omega) (Nat.zero_le _) r1 r2 (PR.dn r3) r4 r5 (r6 (by decide)) r7 r8⟩) (fun mem1 Mf r1 r2 r3 => ⟨_, rfl, h_mRe_readSum_10 ⟨fun q => absurd q (by decide), fun _ => ⟨fun _ => ⟨Or.inl rfl, h0 mem1 Mf r1 r2 r3⟩, fun z => absurd rfl z⟩⟩⟩)⟩
theorem lv_readTerm (hS : St sh rf nx) {d opn nts : Nat} (hsub : LvC l G ol sh rf nx tp L key mem0 mRe_readPiece (5 + 1) (d + 2) opn nts) : LvC l G ol sh rf nx tp L key mem0 mRe_readTerm 5 (d + 3) opn nts := by
  intro mem M st t tl K hM hw hst hT hts ht hO hN hB h1 h0
  have i := r_is hS
  have loop : ∀ n mem1 M1 P t1 j (u5 : Value), L - M1.s ≤ n → j ≤ M1.s → Rch tp L key M M1 → M1.st = P ++ st → PR 5 P → M1.w = false → M1.ts = t1 :: tl → t1 = t → Nx tp L (5 + 1) M1.s t1 → RM tp L key mem0 mem1 M1.s ((M1.cd ++ P).map enc) M1.na → ab_Go l G ol (d + 2) mRe_readTerm (ab_mc mRe_readTerm) (ab_ms mRe_readTerm) (fun r sh rf mem nx _ _ => K r sh rf mem nx) 10 [.ref 63, .int (nI opn), .int (nI nts), .int 1, .int (nI j), u5] [] sh rf mem1 nx 0 0 := by
    intro n
    induction n with
    | zero =>
      intro mem1 M1 P t1 j u5 hn hj hR1 e1 hP ew ets h4 hX hM1
      have z : srt tp L M1.s = 0 := srt_ge (by omega)
      have fin : K (some (.int 1)) sh rf mem1 nx := h1 mem1 M1 P t1 hR1 e1 hP ew ets (fun _ => h4) (Or.inl (nx_0 z)) hM1
      refine h_mRe_readTerm_10 ⟨fun _ => ⟨Or.inr rfl, fin⟩, fun _ => ⟨fun q => absurd q (by decide), fun _ => ⟨i, r_signM (d := d + 1) hS hM1 (by decide) (fun q => absurd (tsg_3 q (by decide)) (by omega)) (fun q => ⟨_, rfl, fun z => absurd rfl z, fun _ => ⟨i, r_signM (d := d + 1) hS hM1 (by decide) (fun q => absurd (tsg_3 q (by decide)) (by omega)) (fun q => ⟨_, rfl, fun _ => ⟨Or.inr rfl, fin⟩, fun z => absurd rfl z⟩)⟩⟩)⟩⟩⟩
    | succ n ih =>
      intro mem1 M1 P t1 j u5 hn hj hR1 e1 hP ew ets h4 hX hM1
      have hsL : M1.s ≤ L := hM1.2.2.2.1
      have hL := hM1.1.2.2.2.1
      rcases Nat.lt_or_ge j 96 with g | g
      · have go : ∀ c, (c = 42 ∨ c = 47) → tsg tp L M1.s = c → (ab_rd (rf 63 0) fun b2 => ab_is sh nx 63 2 ∧ (ab_is sh nx b2 10 ∧ vp_in (mem1 63 5) (sh b2).2 ∧ (ab_is sh nx 63 2 ∧ ab_Cx l G ol (d + 2) mRe_step [.ref 63] sh rf mem1 nx (fun r3 sh3 rf3 mem3 nx3 => r3 = none ∧ (ab_is sh3 nx3 63 2 ∧ ab_Cx l G ol (d + 2) mRe_readPiece [.ref 63, .int (nI opn), .int (nI nts)] sh3 rf3 mem3 nx3 (fun r4 sh4 rf4 mem4 nx4 => ∃ x4, r4 = some (.int x4) ∧ (ab_is sh4 nx4 63 2 ∧ ab_Cx l G ol (d + 2) mRe_put [.ref 63, .int ((20000 : Int32) + (mem1 b2 (Int32.toNatClampNeg (mem1 63 5))))] sh4 rf4 mem4 nx4 (fun r5 sh5 rf5 mem5 nx5 => r5 = none ∧ (ab_Go l G ol (d + 2) mRe_readTerm (ab_mc mRe_readTerm) (ab_ms mRe_readTerm) (fun r sh rf mem nx _ _ => K r sh rf mem nx) 10 [.ref 63, .int (nI opn), .int (nI nts), .int x4, .int (nI j + (1 : Int32)), .int (mem1 b2 (Int32.toNatClampNeg (mem1 63 5)))] [] sh5 rf5 mem5 nx5 0 0)))))))))  := by
          intro c hc q
          have s3 : srt tp L M1.s = 3 := tsg_3 q (by rcases hc with rfl | rfl <;> decide)
          have slt := srt_lt (tp := tp) (L := L) (k := M1.s) (by omega)
          have m5 := hM1.2.2.1.1
          have m62 := hM1.e.1
          have ec : mem1 62 M1.s = c := by
            rw [m62]
            unfold tsg at q
            rw [if_pos s3] at q
            exact q
          refine rd_of hS rfl rfl ⟨i, is_of hS rfl rfl, in_of (n := 96) hS rfl rfl (by rw [m5]; exact vp_in_nI (by omega) (by decide)), i, ?_⟩
          rw [m5, cl_nI (by omega), ec]
          refine lv_op hS hsub hR1 e1 hP hT ew ets q (by rcases hc with rfl | rfl <;> decide) (by rcases hc with rfl | rfl <;> decide) (fun z => absurd z.1 (by decide)) (by rw [q]; rcases hc with rfl | rfl <;> decide) hO hN hB hM1 (by rcases hc with rfl | rfl <;> decide) (fun mem4 M3 P3 t3 r1 r2 r3 r4 r5 r6 r7 r8 r9 r10 => ?_) (fun mem4 Mf r1 r2 r3 => ?_)
          · rw [nI_1]
            exact ih mem4 M3 P3 t3 (j + 1) _ (by omega) (by omega) r1 r2 r3 r4 r5 ((r6 (by decide)).trans h4) r8 r10
          · exact h_mRe_readTerm_10 ⟨fun _ => ⟨Or.inl rfl, h0 mem4 Mf r1 r2 r3⟩, fun _ => ⟨fun _ => ⟨Or.inl rfl, h0 mem4 Mf r1 r2 r3⟩, fun z => absurd rfl z⟩⟩
        refine h_mRe_readTerm_10 ⟨fun q => absurd q (nI_ge g (by decide)), fun _ => ⟨fun q => absurd q (by decide), fun _ => ⟨i, r_signM (d := d + 1) hS hM1 (by decide) (fun q => ⟨_, rfl, fun _ => ⟨i, go _ (Or.inl rfl) q⟩, fun z => absurd z (by decide)⟩) (fun q => ⟨_, rfl, fun z => absurd rfl z, fun _ => ⟨i, r_signM (d := d + 1) hS hM1 (by decide) (fun q2 => ⟨_, rfl, fun z => absurd z (by decide), fun _ => ⟨i, go _ (Or.inr rfl) q2⟩⟩) (fun q2 => ⟨_, rfl, fun _ => ⟨Or.inr rfl, h1 mem1 M1 P t1 hR1 e1 hP ew ets (fun _ => h4) ?_ hM1⟩, fun z => absurd rfl z⟩)⟩⟩)⟩⟩⟩
        refine nx_dn hX (fun z => ?_)
        rcases rk_5 z with z | z
        · exact q z
        · exact q2 z
      · have z : srt tp L M1.s = 0 := srt_ge (by omega)
        exact h_mRe_readTerm_10 ⟨fun _ => ⟨Or.inr rfl, h1 mem1 M1 P t1 hR1 e1 hP ew ets (fun _ => h4) (Or.inl (nx_0 z)) hM1⟩, fun q => absurd (nI_le (a := 96) g (by omega)) q⟩
  refine e_mRe_readTerm ⟨i, hsub mem M st t tl _ hM hw hst (Tp.up hT) hts (fun z => absurd z (by decide)) hO hN hB (fun mem1 M1 P t1 r1 r2 r3 r4 r5 r6 r7 r8 => ⟨_, rfl, loop L mem1 M1 P t1 0 _ (by omega) (Nat.zero_le _) r1 r2 (PR.dn r3) r4 r5 (r6 (by decide)) r7 r8⟩) (fun mem1 Mf r1 r2 r3 => ⟨_, rfl, h_mRe_readTerm_10 ⟨fun q => absurd q (by decide), fun _ => ⟨fun _ => ⟨Or.inl rfl, h0 mem1 Mf r1 r2 r3⟩, fun z => absurd rfl z⟩⟩⟩)⟩
end LV
