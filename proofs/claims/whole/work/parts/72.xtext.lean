/-! CLASS: a text is read, and kept -/
/-- the key that a tape begins with -/
def KyP (tp : Row) (L w : Nat) : Prop := w < 3 ∧ srt tp L (skb tp L 0) = 1 ∧ isW tp (skb tp L 0) (en tp L (skb tp L 0)) w ∧ ∀ v, v < w → ¬ isW tp (skb tp L 0) (en tp L (skb tp L 0)) v
def M0 (tp : Row) (L : Nat) : PM := (nxt tp L (skb tp L 0), [], [], true, [false], 0)
/-- a text is read to its end -/
def DoneP (tp : Row) (L key : Nat) (M : PM) : Prop := Rch tp L key (M0 tp L) M ∧ M.w = false ∧ srt tp L M.s = 0 ∧ PR 1 M.st
section XT
variable {l : Launch} {G : ab_G} {ol : ab_Ol} {sh : ab_S} {rf : ab_R} {mem : ab_N} {nx : Nat} {K : ab_K}
theorem r_isText (hS : St sh rf nx) {L : Nat} (hL : L ≤ 96) (ht : ∀ j, ∃ q, q < 256 ∧ mem 62 j = nI q) (hno : (∀ w, ¬ KyP (mem 62) L w) → ∀ mem', (∀ a, a ≠ 63 → a ≠ 64 → mem' a = mem a) → mem' 63 5 = nI (skb (mem 62) L 0) → K (some (.int 0)) sh rf mem' nx) (hfl : ∀ w, KyP (mem 62) L w → ∀ Mf, Rch (mem 62) L w (M0 (mem 62) L) Mf → Fl (mem 62) L w Mf → ∀ mem', (∀ a, a ≠ 63 → a ≠ 64 → mem' a = mem a) → mem' 63 5 = nI Mf.s → K (some (.int 0)) sh rf mem' nx) (hok : ∀ w, KyP (mem 62) L w → ∀ M, DoneP (mem 62) L w M → ∀ mem', (∀ a, a ≠ 63 → a ≠ 64 → mem' a = mem a) → mem' 63 8 = nI w → mem' 63 3 = nI M.na → RC mem' ((M.cd ++ M.st).map enc) → (M.cd ++ M.st).length ≤ 96 → K (some (.int 1)) sh rf mem' nx) : ab_Cx l G ol 699 mRe_isText [.ref 63, .int (nI L)] sh rf mem nx K := by
  have i := r_is hS
  refine e_mRe_isText ⟨i, i, i, i, i, i, ?_⟩
  generalize hm : ab_w (ab_w (ab_w (ab_w (ab_w mem 63 4 (nI L)) 63 2 0) 63 3 0) 63 6 0) 63 7 0 = mem1
  have o : ∀ a, a ≠ 63 → mem1 a = mem a := fun a ha => by rw [← hm, ab_w_ne _ _ _ ha, ab_w_ne _ _ _ ha, ab_w_ne _ _ _ ha, ab_w_ne _ _ _ ha, ab_w_ne _ _ _ ha]
  have e4 : mem1 63 4 = nI L := by rw [← hm, w_ne _ _ (Or.inr (by decide)), w_ne _ _ (Or.inr (by decide)), w_ne _ _ (Or.inr (by decide)), w_ne _ _ (Or.inr (by decide)), w_eq]
  have e2 : mem1 63 2 = nI 0 := by rw [← hm, w_ne _ _ (Or.inr (by decide)), w_ne _ _ (Or.inr (by decide)), w_ne _ _ (Or.inr (by decide)), w_eq]; rfl
  have e3 : mem1 63 3 = nI 0 := by rw [← hm, w_ne _ _ (Or.inr (by decide)), w_ne _ _ (Or.inr (by decide)), w_eq]; rfl
  have e6 : mem1 63 6 = nI 0 := by rw [← hm, w_ne _ _ (Or.inr (by decide)), w_eq]; rfl
  have e62 : mem1 62 = mem 62 := o 62 (by decide)
  have hs0 : skb (mem 62) L 0 ≤ L := skb_le (Nat.zero_le _)
  refine r_step (d := 696) (k := 0) hS hL (Nat.zero_le _) e4 e6 (fun mem2 F1 F2 hR => ⟨rfl, i, ?_⟩)
  rw [e62] at hR
  have f62 : mem2 62 = mem 62 := (F1 62 (by decide)).trans e62
  have hR2 : RS mem2 (mem2 62) L (skb (mem 62) L 0) := by rw [f62]; exact hR
  refine r_keyHere (d := 692) hS hL hs0 hR2 (fun w hw s1 hi hf => ⟨_, rfl, i, i, fun _ => ⟨i, ?_⟩, fun z => ?_⟩) (fun hn => ⟨_, rfl, i, i, fun z => ?_, fun _ => ⟨Or.inl rfl, hno (fun w hk => hn ?_) _ (fun a a1 a2 => ?_) ?_⟩⟩)
  · rw [f62] at s1 hi hf
    have hk : KyP (mem 62) L w := ⟨hw, s1, hi, hf⟩
    generalize hm3 : ab_w mem2 63 8 (nI w) = mem3
    have p : ∀ a, a ≠ 63 → mem3 a = mem2 a := fun a ha => by rw [← hm3, ab_w_ne _ _ _ ha]
    have p63 : ∀ j, j ≠ 8 → mem3 63 j = mem2 63 j := fun j hj => by rw [← hm3, w_ne _ _ (Or.inr hj)]
    have hRE : RE (mem 62) L w mem3 := ⟨(p 62 (by decide)).trans f62, by rw [p63 4 (by decide), F2 4 (by decide) (by decide) (by decide)]; exact e4, by rw [← hm3, w_eq], hL, hw, ht⟩
    have hM3 : RM (mem 62) L w mem3 mem3 (skb (mem 62) L 0) [] 0 := ⟨hRE, ⟨fun _ _ _ => rfl, rfl, rfl⟩, ⟨by rw [p63 5 (by decide)]; exact hR.1, by rw [p63 6 (by decide)]; exact hR.2.1, by rw [p63 7 (by decide)]; exact hR.2.2⟩, hs0, ⟨by rw [p63 2 (by decide), F2 2 (by decide) (by decide) (by decide)]; exact e2, fun k hk => absurd hk (by simp)⟩, by rw [p63 3 (by decide), F2 3 (by decide) (by decide) (by decide)]; exact e3⟩
    have fr : ∀ mem', FR mem3 mem' → ∀ a, a ≠ 63 → a ≠ 64 → mem' a = mem a := fun mem' hF a a1 a2 => by rw [hF.1 a a1 a2, p a a1, F1 a a1, o a a1]
    refine r_stepM (d := 696) hS hM3 (fun mem4 hM4 => ⟨rfl, i, ?_⟩)
    have hB : Bud (M0 (mem 62) L) := by
      have := nxt_gt (tp := mem 62) (L := L) (s := skb (mem 62) L 0) (by omega)
      unfold Bud M0
      show 0 + 0 < nxt (mem 62) L (skb (mem 62) L 0)
      omega
    have q := lv_readOr (d := 695) (opn := 0) (nts := 0) (mem0 := mem3) (tp := mem 62) (L := L) (key := w) (l := l) (G := G) (ol := ol) hS (lv_readAnd (d := 694) hS (lv_readTest (d := 693) hS (lv_readSum (d := 692) hS (lv_readTerm (d := 691) hS (pc_lv (pc_all hS 16 589 0 0 (by decide) (by decide) (by decide)))))))
    refine q mem4 (M0 (mem 62) L) [] false [] _ hM4 rfl rfl (fun o rest e => by cases e) rfl (fun _ => rfl) rfl rfl hB (fun mem5 M' P t' g1 g2 g3 g4 g5 g6 g7 g8 => ⟨_, rfl, fun z => absurd z (by decide), fun _ => ⟨i, fun z => ⟨Or.inl rfl, ?_⟩, fun z => ⟨Or.inr rfl, ?_⟩⟩⟩) (fun mem5 Mf g1 g2 g3 => ⟨_, rfl, fun _ => ⟨Or.inl rfl, hfl w hk Mf g1 g2 mem5 (fr mem5 g3.1) g3.2.1⟩, fun z => absurd rfl z⟩)
    · rw [List.append_nil] at g2
      have m7 := g8.2.2.1.2.2
      have sn : srt (mem 62) L M'.s ≠ 0 := fun e => z (by rw [m7, e]; rfl)
      have c0 : cO M'.st = 0 := by
        rw [g2]
        unfold cO
        exact List.count_eq_zero.mpr (fun hmem => (g3 _ hmem).1 rfl)
      refine hfl w hk M' g1 ⟨?_, fun e => sn e.2.1⟩ mem5 (fr mem5 g8.2.1) g8.2.2.1.1
      unfold stp
      rw [if_neg (by rw [g4]; decide), if_neg sn, if_neg (fun e => by omega), if_pos]
      rcases g7 with e | e | e
      · exact Or.inl e
      · have := rk_pos (opOf (tsg (mem 62) L M'.s)); omega
      · exact Or.inr ⟨e.1, by rw [g5]; exact e.2⟩
    · rw [List.append_nil] at g2
      have m7 := g8.2.2.1.2.2
      have hb := srt_le (tp := mem 62) (L := L) M'.s
      have s0 : srt (mem 62) L M'.s = 0 := (ixe_iff (by omega) (by decide)).mp (m7.symm.trans z)
      have hbud := Bud.rch g1 hB
      have e8 := g8.e.2.2.1
      rw [← g2] at g8
      refine hok w hk M' ⟨g1, g4, s0, by rw [g2]; exact g3⟩ mem5 (fr mem5 g8.2.1) e8 g8.2.2.2.2.2 g8.2.2.2.2.1 ?_
      have := g8.2.2.2.1
      unfold Bud at hbud
      rw [List.length_append]
      omega
  · rw [w_eq] at z
    exact absurd (nI_pos' (by omega)) z
  · rw [w_eq] at z
    exact absurd z (by decide)
  · rw [f62]
    exact ⟨hk.2.1, w, hk.1, hk.2.2.1⟩
  · rw [ab_w_ne _ _ _ a1, F1 a a1, o a a1]
  · rw [w_ne _ _ (Or.inr (by decide))]; exact hR.1
end XT
