/-! THE REFERENCE: words and signs -/
def FG (mem mem' : ab_N) : Prop := (∀ a, a ≠ 101 → mem' a = mem a) ∧ ∀ j, ¬ (11 ≤ j ∧ j ≤ 15) → mem' 101 j = mem 101 j
theorem FG.rf {mem : ab_N} : FG mem mem := ⟨fun _ _ => rfl, fun _ _ => rfl⟩
theorem FG.w {mem m1 : ab_N} {j : Nat} {v : Int32} (h : FG mem m1) (hj : 11 ≤ j ∧ j ≤ 15) : FG mem (ab_w m1 101 j v) := ⟨fun a ha => by rw [ab_w_ne _ _ _ ha]; exact h.1 a ha, fun k hk => by rw [w_ne _ _ (Or.inr (by intro e; subst e; exact hk hj))]; exact h.2 k hk⟩
def tkn (tp : Row) (L s : Nat) : Nat := if srt tp L s = 0 then 0 else if srt tp L s = 3 then 3 else if nbl tp L s then 4 else if srt tp L s = 1 then 1 else if en tp L s - s ≤ 4 then 2 else 4
def TK (mem : ab_N) (tp : Row) (L s : Nat) : Prop := mem 101 11 = nI (en tp L s) ∧ mem 101 12 = nI s ∧ mem 101 13 = nI (tkn tp L s) ∧ (srt tp L s = 3 ∨ srt tp L s = 1 → mem 101 14 = tp s) ∧ (srt tp L s = 2 → en tp L s - s ≤ 4 → mem 101 14 = numF tp s (en tp L s - s)) ∧ (srt tp L s = 1 ∨ srt tp L s = 2 → mem 101 15 = nI (en tp L s)) ∧ (srt tp L s = 3 → mem 101 15 = -1 ∨ ∃ j, j ≤ s ∧ mem 101 15 = nI j)
section MG
variable {l : Launch} {G : ab_G} {ol : ab_Ol} {d : Nat} {sh : ab_S} {rf : ab_R} {mem : ab_N} {nx : Nat} {K : ab_K}
theorem mtp (hS : St sh rf nx) {k : Nat} (hk : k < 96) {C : Nat → Prop} (h : C 109) : ab_rd (rf 101 9) fun b => ab_is sh nx b 10 ∧ vp_in (nI k) (sh b).2 ∧ C b := ma hS rfl rfl rfl (vp_in_nI hk (by decide)) h
theorem m_isLetter (hS : St sh rf nx) {L k : Nat} (hL : L ≤ 96) (hk : k ≤ 96) (h10 : mem 101 10 = nI L) (h1 : srt (mem 109) L k = 1 → K (some (.int 1)) sh rf mem nx) (h0 : srt (mem 109) L k ≠ 1 → K (some (.int 0)) sh rf mem nx) : ab_Cx l G ol (d + 1) mM_isLetter [.ref 101, .int (nI k)] sh rf mem nx K := by
  have i := m9 hS
  refine e_mM_isLetter ⟨i, fun q => ⟨Or.inl rfl, h0 ?_⟩, fun q => ⟨i, ?_⟩⟩
  · rw [h10] at q
    rw [srt_ge (by
      rcases Nat.lt_or_ge k L with z | z
      · exact absurd q (nI_ge z (by omega))
      · exact z)]
    decide
  · rw [h10] at q
    have g : k < L := by
      rcases Nat.lt_or_ge k L with z | z
      · exact z
      · exact absurd (nI_le z (by omega)) q
    have e : srt (mem 109) L k = if 97 ≤ mem 109 k ∧ mem 109 k ≤ 122 then 1 else if 48 ≤ mem 109 k ∧ mem 109 k ≤ 57 then 2 else 3 := by unfold srt; rw [if_neg (by omega)]
    have no : ¬ (97 ≤ mem 109 k ∧ mem 109 k ≤ 122) → srt (mem 109) L k ≠ 1 := fun z => by rw [e, if_neg z]; split <;> decide
    refine mtp hS (by omega) ?_
    rw [cl_nI (by omega)]
    refine ⟨fun a => ⟨Or.inl rfl, h0 (no fun z => absurd a (Int32.not_lt.mpr z.1))⟩, fun a => ⟨i, mtp hS (by omega) ?_⟩⟩
    exact ⟨fun b => ⟨Or.inl rfl, h0 (no fun z => absurd b (Int32.not_lt.mpr z.2))⟩, fun b => ⟨Or.inr rfl, h1 (by rw [e, if_pos ⟨Int32.not_lt.mp a, Int32.not_lt.mp b⟩])⟩⟩
theorem m_isFigure (hS : St sh rf nx) {L k : Nat} (hL : L ≤ 96) (hk : k ≤ 96) (h10 : mem 101 10 = nI L) (h1 : srt (mem 109) L k = 2 → K (some (.int 1)) sh rf mem nx) (h0 : srt (mem 109) L k ≠ 2 → K (some (.int 0)) sh rf mem nx) : ab_Cx l G ol (d + 1) mM_isFigure [.ref 101, .int (nI k)] sh rf mem nx K := by
  have i := m9 hS
  refine e_mM_isFigure ⟨i, fun q => ⟨Or.inl rfl, h0 ?_⟩, fun q => ⟨i, ?_⟩⟩
  · rw [h10] at q
    rw [srt_ge (by
      rcases Nat.lt_or_ge k L with z | z
      · exact absurd q (nI_ge z (by omega))
      · exact z)]
    decide
  · rw [h10] at q
    have g : k < L := by
      rcases Nat.lt_or_ge k L with z | z
      · exact z
      · exact absurd (nI_le z (by omega)) q
    have e : srt (mem 109) L k = if 97 ≤ mem 109 k ∧ mem 109 k ≤ 122 then 1 else if 48 ≤ mem 109 k ∧ mem 109 k ≤ 57 then 2 else 3 := by unfold srt; rw [if_neg (by omega)]
    have no : ¬ (48 ≤ mem 109 k ∧ mem 109 k ≤ 57) → srt (mem 109) L k ≠ 2 := fun z => by
      rw [e]
      split
      all_goals first | decide | (rw [if_neg z]; decide)
    refine mtp hS (by omega) ?_
    rw [cl_nI (by omega)]
    refine ⟨fun a => ⟨Or.inl rfl, h0 (no fun z => absurd a (Int32.not_lt.mpr z.1))⟩, fun a => ⟨i, mtp hS (by omega) ?_⟩⟩
    refine ⟨fun b => ⟨Or.inl rfl, h0 (no fun z => absurd b (Int32.not_lt.mpr z.2))⟩, fun b => ⟨Or.inr rfl, h1 ?_⟩⟩
    have hb := Int32.not_lt.mp b
    rw [e, if_neg (fun z => absurd (Int32.le_trans z.1 hb) (by decide)), if_pos ⟨Int32.not_lt.mp a, hb⟩]
theorem m_go (hS : St sh rf nx) {L k : Nat} (hL : L ≤ 96) (hk : k ≤ L) (h10 : mem 101 10 = nI L) (h11 : mem 101 11 = nI k) (hcl : mem 101 15 = nI (skb (mem 109) L k) ↔ nbl (mem 109) L (skb (mem 109) L k)) (hE : mem 101 15 = -1 ∨ ∃ j, j ≤ k ∧ mem 101 15 = nI j) (h : ∀ mem', FG mem mem' → TK mem' (mem 109) L (skb (mem 109) L k) → K none sh rf mem' nx) : ab_Cx l G ol (d + 2) mM_go [.ref 101] sh rf mem nx K := by
  have i := m9 hS
  obtain ⟨s, es⟩ : ∃ s, s = skb (mem 109) L k := ⟨_, rfl⟩
  rw [← es] at hcl h
  have hsk : k ≤ s := by rw [es]; exact skb_ge k
  have hsL : s ≤ L := by rw [es]; exact skb_le hk
  obtain ⟨tp, etp⟩ : ∃ tp, tp = mem 109 := ⟨_, rfl⟩
  rw [← etp] at hcl h es
  have heL := en_le (tp := tp) (L := L) hsL
  have hge := en_ge (tp := tp) (L := L) s
  -- behind the letters
  have l117 : ∀ mem1 c, FG mem mem1 → (c = 0 ↔ ¬ nbl tp L s) → (c = 0 ∨ c = 1) → srt tp L s = 1 → mem1 101 11 = nI (en tp L s) → mem1 101 12 = nI s → ab_Go l G ol (d + 1) mM_go (ab_mc mM_go) (ab_ms mM_go) (fun r sh rf mem nx _ _ => K r sh rf mem nx) 117 [.ref 101, .int c] [] sh rf mem1 nx 0 0 := by
    intro mem1 c F hc _ s1 m11 m12
    have slt := srt_lt (tp := tp) (L := L) (k := s) (by omega)
    have m109 : mem1 109 = tp := (F.1 109 (by decide)).trans etp.symm
    have fin : ∀ t : Nat, t = tkn tp L s → TK (ab_w (ab_w (ab_w mem1 101 13 (nI t)) 101 14 (tp s)) 101 15 (nI (en tp L s))) tp L s := fun t et => ⟨by rw [w_ne _ _ (Or.inr (by decide)), w_ne _ _ (Or.inr (by decide)), w_ne _ _ (Or.inr (by decide))]; exact m11, by rw [w_ne _ _ (Or.inr (by decide)), w_ne _ _ (Or.inr (by decide)), w_ne _ _ (Or.inr (by decide))]; exact m12, by rw [w_ne _ _ (Or.inr (by decide)), w_ne _ _ (Or.inr (by decide)), w_eq, et], fun _ => by rw [w_ne _ _ (Or.inr (by decide)), w_eq], fun z => by omega, fun _ => by rw [w_eq], fun z => by omega⟩
    have fr : ∀ t v e, FG mem (ab_w (ab_w (ab_w mem1 101 13 t) 101 14 v) 101 15 e) := fun t v e => ((F.w (by decide)).w (by decide)).w (by decide)
    refine g_mM_go_117 ⟨fun z => ⟨i, i, rd_of hS rfl rfl ⟨i, is_of hS rfl rfl, ?_⟩⟩, fun z => ⟨i, i, rd_of hS rfl rfl ⟨i, is_of hS rfl rfl, ?_⟩⟩⟩
    · rw [w_ne _ _ (Or.inr (by decide)), m12, cl_nI (by omega), ab_w_ne _ _ _ (by decide), m109]
      refine ⟨in_of (n := 96) hS rfl rfl (vp_in_nI (by omega) (by decide)), i, i, i, ?_⟩
      rw [w_ne _ _ (Or.inr (by decide)), w_ne _ _ (Or.inr (by decide)), m11]
      exact h _ (fr _ _ _) (fin 1 (by unfold tkn; rw [if_neg (by omega), if_neg (by omega), if_neg (hc.mp z), if_pos s1]))
    · rw [w_ne _ _ (Or.inr (by decide)), m12, cl_nI (by omega), ab_w_ne _ _ _ (by decide), m109]
      refine ⟨in_of (n := 96) hS rfl rfl (vp_in_nI (by omega) (by decide)), i, i, i, ?_⟩
      rw [w_ne _ _ (Or.inr (by decide)), w_ne _ _ (Or.inr (by decide)), m11]
      have hb : nbl tp L s := Classical.byContradiction fun q => z (hc.mpr q)
      exact h _ (fr _ _ _) (fin 4 (by unfold tkn; rw [if_neg (by omega), if_neg (by omega), if_pos hb]))
  have l93 : ∀ n j mem1 c, L - j = n → s ≤ j → j ≤ L → FG mem mem1 → (c = 0 ↔ ¬ nbl tp L s) → (c = 0 ∨ c = 1) → srt tp L s = 1 → wen tp L 1 j = en tp L s → mem1 101 11 = nI j → mem1 101 12 = nI s → ab_Go l G ol (d + 1) mM_go (ab_mc mM_go) (ab_ms mM_go) (fun r sh rf mem nx _ _ => K r sh rf mem nx) 93 [.ref 101, .int c] [] sh rf mem1 nx 0 0 := by
    intro n
    induction n with
    | zero =>
      intro j mem1 c hn hsj hjL F hc hc1 s1 hw m11 m12
      have m109 : mem1 109 = tp := (F.1 109 (by decide)).trans etp.symm
      have m10 : mem1 101 10 = nI L := (F.2 10 (by omega)).trans h10
      rw [wen_L (by omega)] at hw
      refine g_mM_go_93 ⟨i, i, ?_⟩
      rw [m11]
      refine m_isLetter hS hL (by omega) m10 (fun z => ?_) (fun z => ⟨_, rfl, fun _ => l117 mem1 c F hc hc1 s1 (by rw [← hw]; exact m11) m12, fun q => absurd rfl q⟩)
      rw [srt_ge (by omega)] at z
      omega
    | succ n ih =>
      intro j mem1 c hn hsj hjL F hc hc1 s1 hw m11 m12
      have m109 : mem1 109 = tp := (F.1 109 (by decide)).trans etp.symm
      have m10 : mem1 101 10 = nI L := (F.2 10 (by omega)).trans h10
      refine g_mM_go_93 ⟨i, i, ?_⟩
      rw [m11]
      refine m_isLetter hS hL (by omega) m10 (fun z => ⟨_, rfl, fun q => absurd q (by decide), fun _ => ⟨i, i, ?_⟩⟩) (fun z => ⟨_, rfl, fun _ => ?_, fun q => absurd rfl q⟩)
      · rw [m109] at z
        rw [wen_s (by omega) z] at hw
        rw [m11, nI_1]
        exact ih (j + 1) _ c (by omega) (by omega) (by omega) (F.w (by decide)) hc hc1 s1 hw (by rw [w_eq]) (by rw [w_ne _ _ (Or.inr (by decide))]; exact m12)
      · rw [m109] at z
        rw [wen_e z] at hw
        exact l117 mem1 c F hc hc1 s1 (by rw [← hw]; exact m11) m12
  -- behind the figures
  have l238 : ∀ mem1 c, FG mem mem1 → (c = 0 ↔ ¬ nbl tp L s) → (c = 0 ∨ c = 1) → srt tp L s = 2 → mem1 101 11 = nI (en tp L s) → mem1 101 12 = nI s → (en tp L s - s ≤ 4 → mem1 101 14 = numF tp s (en tp L s - s)) → ab_Go l G ol (d + 1) mM_go (ab_mc mM_go) (ab_ms mM_go) (fun r sh rf mem nx _ _ => K r sh rf mem nx) 238 [.ref 101, .int c] [] sh rf mem1 nx 0 0 := by
    intro mem1 c F hc _ s2 m11 m12 m14
    have fin : ∀ t : Nat, t = tkn tp L s → K none sh rf (ab_w (ab_w mem1 101 13 (nI t)) 101 15 (nI (en tp L s))) nx := fun t et => h _ ((F.w (by decide)).w (by decide)) ⟨by rw [w_ne _ _ (Or.inr (by decide)), w_ne _ _ (Or.inr (by decide))]; exact m11, by rw [w_ne _ _ (Or.inr (by decide)), w_ne _ _ (Or.inr (by decide))]; exact m12, by rw [w_ne _ _ (Or.inr (by decide)), w_eq, et], fun z => by omega, fun _ z => by rw [w_ne _ _ (Or.inr (by decide)), w_ne _ _ (Or.inr (by decide))]; exact m14 z, fun _ => by rw [w_eq], fun z => by omega⟩
    have e15 : ∀ v, (ab_w mem1 101 13 v) 101 11 = nI (en tp L s) := fun v => by rw [w_ne _ _ (Or.inr (by decide))]; exact m11
    have ed : mem1 101 11 - mem1 101 12 = nI (en tp L s - s) := by rw [m11, m12]; exact pk_sub hge
    refine g_mM_go_238 ⟨fun z => ⟨i, i, i, ?_⟩, fun z => ⟨i, i, fun q => ⟨i, i, i, ?_⟩, fun q => ⟨i, i, i, ?_⟩⟩⟩
    · rw [e15]
      have hb : nbl tp L s := Classical.byContradiction fun q => z (hc.mpr q)
      exact fin 4 (by unfold tkn; rw [if_neg (by omega), if_neg (by omega), if_pos hb])
    · rw [e15]
      rw [ed] at q
      have q4 : en tp L s - s ≤ 4 := by
        rcases Nat.lt_or_ge 4 (en tp L s - s) with w | w
        · exact absurd q (nI_ge w (by omega))
        · exact w
      exact fin 2 (by unfold tkn; rw [if_neg (by omega), if_neg (by omega), if_neg (hc.mp z), if_neg (by omega), if_pos q4])
    · rw [e15]
      rw [ed] at q
      have q4 : ¬ en tp L s - s ≤ 4 := fun w => q (nI_le (b := 4) w (by decide))
      exact fin 4 (by unfold tkn; rw [if_neg (by omega), if_neg (by omega), if_neg (hc.mp z), if_neg (by omega), if_neg q4])
  have l170 : ∀ n j mem1 c, L - j = n → s ≤ j → j ≤ L → FG mem mem1 → (c = 0 ↔ ¬ nbl tp L s) → (c = 0 ∨ c = 1) → srt tp L s = 2 → wen tp L 2 j = en tp L s → mem1 101 11 = nI j → mem1 101 12 = nI s → (j - s ≤ 4 → mem1 101 14 = numF tp s (j - s)) → ab_Go l G ol (d + 1) mM_go (ab_mc mM_go) (ab_ms mM_go) (fun r sh rf mem nx _ _ => K r sh rf mem nx) 170 [.ref 101, .int c] [] sh rf mem1 nx 0 0 := by
    intro n
    induction n with
    | zero =>
      intro j mem1 c hn hsj hjL F hc hc1 s1 hw m11 m12 m14
      have m109 : mem1 109 = tp := (F.1 109 (by decide)).trans etp.symm
      have m10 : mem1 101 10 = nI L := (F.2 10 (by omega)).trans h10
      rw [wen_L (by omega)] at hw
      refine g_mM_go_170 ⟨i, i, ?_⟩
      rw [m11]
      refine m_isFigure hS hL (by omega) m10 (fun z => ?_) (fun z => ⟨_, rfl, fun _ => l238 mem1 c F hc hc1 s1 (by rw [← hw]; exact m11) m12 (by rw [← hw]; exact m14), fun q => absurd rfl q⟩)
      rw [srt_ge (by omega)] at z
      omega
    | succ n ih =>
      intro j mem1 c hn hsj hjL F hc hc1 s1 hw m11 m12 m14
      have m109 : mem1 109 = tp := (F.1 109 (by decide)).trans etp.symm
      have m10 : mem1 101 10 = nI L := (F.2 10 (by omega)).trans h10
      have ed : mem1 101 11 - mem1 101 12 = nI (j - s) := by rw [m11, m12]; exact pk_sub hsj
      refine g_mM_go_170 ⟨i, i, ?_⟩
      rw [m11]
      refine m_isFigure hS hL (by omega) m10 (fun z => ⟨_, rfl, fun q => absurd q (by decide), fun _ => ⟨i, i, fun q => ⟨i, i, i, i, ?_⟩, fun q => ⟨i, i, ?_⟩⟩⟩) (fun z => ⟨_, rfl, fun _ => ?_, fun q => absurd rfl q⟩)
      · rw [m109] at z
        rw [wen_s (by omega) z] at hw
        rw [ed] at q
        have q4 : ¬ j - s < 4 := fun w => absurd q (nI_ge w (by decide))
        rw [w_ne _ _ (Or.inr (by decide)), m11, nI_1]
        exact ih (j + 1) _ c (by omega) (by omega) (by omega) ((F.w (by decide)).w (by decide)) hc hc1 s1 hw (by rw [w_eq]) (by rw [w_ne _ _ (Or.inr (by decide)), w_ne _ _ (Or.inr (by decide))]; exact m12) (fun w => by omega)
      · rw [m109] at z
        rw [wen_s (by omega) z] at hw
        rw [ed] at q
        have q4 : j - s < 4 := by
          rcases Nat.lt_or_ge (j - s) 4 with w | w
          · exact w
          · exact absurd (nI_le (a := 4) w (by omega)) q
        refine rd_of hS rfl rfl ⟨i, is_of hS rfl rfl, in_of (n := 96) hS rfl rfl (by rw [m11]; exact vp_in_nI (by omega) (by decide)), i, i, i, ?_⟩
        rw [w_ne _ _ (Or.inr (by decide)), m11, nI_1, cl_nI (by omega), m109]
        refine ih (j + 1) _ c (by omega) (by omega) (by omega) ((F.w (by decide)).w (by decide)) hc hc1 s1 hw (by rw [w_eq]) (by rw [w_ne _ _ (Or.inr (by decide)), w_ne _ _ (Or.inr (by decide))]; exact m12) (fun w => ?_)
        rw [w_ne _ _ (Or.inr (by decide)), w_eq, m14 (by omega), show j + 1 - s = (j - s) + 1 by omega, numF, show s + (j - s) = j by omega, Int32.mul_comm]
      · rw [m109] at z
        rw [wen_e z] at hw
        exact l238 mem1 c F hc hc1 s1 (by rw [← hw]; exact m11) m12 (by rw [← hw]; exact m14)
  -- behind the blanks
  have l38 : ∀ mem1, FG mem mem1 → mem1 101 11 = nI s → mem1 101 15 = mem 101 15 → ab_Go l G ol (d + 1) mM_go (ab_mc mM_go) (ab_ms mM_go) (fun r sh rf mem nx _ _ => K r sh rf mem nx) 38 [.ref 101, .retAddr 0] [] sh rf mem1 nx 0 0 := by
    intro mem1 F m11 m15
    obtain ⟨mem2, hm2⟩ : ∃ mem2, mem2 = ab_w mem1 101 12 (mem1 101 11) := ⟨_, rfl⟩
    have F2 : FG mem mem2 := by rw [hm2]; exact F.w (by decide)
    have n11 : mem2 101 11 = nI s := by rw [hm2, w_ne _ _ (Or.inr (by decide))]; exact m11
    have n12 : mem2 101 12 = nI s := by rw [hm2, w_eq]; exact m11
    have n15 : mem2 101 15 = mem 101 15 := by rw [hm2, w_ne _ _ (Or.inr (by decide))]; exact m15
    have n10 : mem2 101 10 = nI L := (F2.2 10 (by omega)).trans h10
    have n109 : mem2 109 = tp := (F2.1 109 (by decide)).trans etp.symm
    have l63 : ∀ c, (c = 0 ↔ ¬ nbl tp L s) → (c = 0 ∨ c = 1) → ab_Go l G ol (d + 1) mM_go (ab_mc mM_go) (ab_ms mM_go) (fun r sh rf mem nx _ _ => K r sh rf mem nx) 63 [.ref 101, .int c] [] sh rf mem2 nx 0 0 := by
      intro c hc hc1
      refine g_mM_go_63 ⟨i, i, fun z => ?_, fun z => ⟨i, ?_⟩⟩
      · have hlt : s < L := by
          rcases Nat.lt_or_ge s L with w | w
          · exact w
          · exact absurd (by rw [n12, n10, show s = L by omega]) z
        have s0 : srt tp L s ≠ 0 := fun w => by have := srt_0 w; omega
        refine g_mM_go_82 ⟨i, i, ?_⟩
        rw [n12]
        refine m_isLetter hS hL (by omega) n10 (fun w => ⟨_, rfl, fun q => absurd q (by decide), fun _ => ?_⟩) (fun w1 => ⟨_, rfl, fun _ => g_mM_go_154 ⟨i, i, ?_⟩, fun q => absurd rfl q⟩)
        · rw [n109] at w
          exact l93 (L - s) s mem2 c rfl (Nat.le_refl _) hsL F2 hc hc1 w (by unfold en; rw [if_neg (by omega), if_neg (by omega), w]) n11 n12
        · rw [n109] at w1
          rw [n12]
          refine m_isFigure hS hL (by omega) n10 (fun w => ⟨_, rfl, fun q => absurd q (by decide), fun _ => ⟨i, ?_⟩⟩) (fun w2 => ⟨_, rfl, fun _ => ?_, fun q => absurd rfl q⟩)
          · rw [n109] at w
            exact l170 (L - s) s _ c rfl (Nat.le_refl _) hsL (F2.w (by decide)) hc hc1 w (by unfold en; rw [if_neg (by omega), if_neg (by omega), w]) (by rw [w_ne _ _ (Or.inr (by decide))]; exact n11) (by rw [w_ne _ _ (Or.inr (by decide))]; exact n12) (fun _ => by rw [w_eq, Nat.sub_self]; rfl)
          · rw [n109] at w2
            have s3 : srt tp L s = 3 := by have := srt_le (tp := tp) (L := L) s; omega
            have ee : en tp L s = s + 1 := by unfold en; rw [if_pos s3]
            refine g_mM_go_275 ⟨i, i, rd_of hS rfl rfl ⟨i, is_of hS rfl rfl, ?_⟩⟩
            rw [w_ne _ _ (Or.inr (by decide)), n12, cl_nI (by omega), ab_w_ne _ _ _ (by decide), n109]
            refine ⟨in_of (n := 96) hS rfl rfl (vp_in_nI (by omega) (by decide)), i, i, i, ?_⟩
            rw [w_ne _ _ (Or.inr (by decide)), w_ne _ _ (Or.inr (by decide)), n11, nI_1]
            refine h _ (((F2.w (by decide)).w (by decide)).w (by decide)) ⟨by rw [w_eq, ee], by rw [w_ne _ _ (Or.inr (by decide)), w_ne _ _ (Or.inr (by decide)), w_ne _ _ (Or.inr (by decide))]; exact n12, by rw [w_ne _ _ (Or.inr (by decide)), w_ne _ _ (Or.inr (by decide)), w_eq]; unfold tkn; rw [if_neg (by omega), if_pos s3]; rfl, fun _ => by rw [w_ne _ _ (Or.inr (by decide)), w_eq], fun q => by omega, fun q => by omega, fun _ => ?_⟩
            rw [w_ne _ _ (Or.inr (by decide)), w_ne _ _ (Or.inr (by decide)), w_ne _ _ (Or.inr (by decide)), n15]
            rcases hE with q | ⟨j, hj, q⟩
            · exact Or.inl q
            · exact Or.inr ⟨j, by omega, q⟩
      · rw [n12, n10] at z
        have hsL2 : s = L := (ixe_iff (by omega) (by omega)).mp z
        have s0 : srt tp L s = 0 := srt_ge (by omega)
        exact h _ (F2.w (by decide)) ⟨by rw [w_ne _ _ (Or.inr (by decide))]; unfold en; rw [if_neg (by omega), if_pos s0]; exact n11, by rw [w_ne _ _ (Or.inr (by decide))]; exact n12, by rw [w_eq]; unfold tkn; rw [if_pos s0]; rfl, fun q => by omega, fun q => by omega, fun q => by omega, fun q => by omega⟩
    rw [hm2] at l63
    refine g_mM_go_38 ⟨i, i, i, i, fun z => l63 0 ⟨fun _ q => z ?_, fun _ => rfl⟩ (Or.inl rfl), fun z => l63 1 ⟨fun q => absurd q (by decide), fun q => absurd (hcl.mp ?_) q⟩ (Or.inr rfl)⟩
    · rw [← hm2, n12, n15]; exact (hcl.mpr q).symm
    · rw [← hm2, n12, n15] at z; exact z.symm
  have st0 : ∀ n j mem1, L - j = n → j ≤ L → skb tp L j = s → FG mem mem1 → mem1 101 11 = nI j → mem1 101 15 = mem 101 15 → ab_Go l G ol (d + 1) mM_go (ab_mc mM_go) (ab_ms mM_go) (fun r sh rf mem nx _ _ => K r sh rf mem nx) 0 [.ref 101, .retAddr 0] [] sh rf mem1 nx 0 0 := by
    intro n
    induction n with
    | zero =>
      intro j mem1 hn hj ej F m11 m15
      have m10 : mem1 101 10 = nI L := (F.2 10 (by omega)).trans h10
      rw [skb_L (by omega)] at ej
      exact g_mM_go_0 ⟨i, i, fun _ => l38 mem1 F (by rw [← ej]; exact m11) m15, fun q => absurd (by rw [m10, m11, show j = L by omega]; exact Int32.le_refl _) q⟩
    | succ n ih =>
      intro j mem1 hn hj ej F m11 m15
      have m10 : mem1 101 10 = nI L := (F.2 10 (by omega)).trans h10
      have m109 : mem1 109 = tp := (F.1 109 (by decide)).trans etp.symm
      refine g_mM_go_0 ⟨i, i, fun q => absurd q (by rw [m10, m11]; exact nI_ge (by omega) (by omega)), fun _ => ⟨i, rd_of hS rfl rfl ⟨i, is_of hS rfl rfl, in_of (n := 96) hS rfl rfl (by rw [m11]; exact vp_in_nI (by omega) (by decide)), ?_⟩⟩⟩
      rw [m11, cl_nI (by omega), m109]
      refine ⟨fun q => ?_, fun q => ⟨i, i, ?_⟩⟩
      · rw [skb_e q] at ej
        exact l38 mem1 F (by rw [← ej]; exact m11) m15
      · rw [skb_s (by omega) q] at ej
        rw [nI_1]
        exact ih (j + 1) _ (by omega) (by omega) ej (F.w (by decide)) (by rw [w_eq]) (by rw [w_ne _ _ (Or.inr (by decide))]; exact m15)
  exact ab_enter (Nat.le_of_ble_eq_true rfl) rfl (Nat.le_of_ble_eq_true rfl) (st0 (L - k) k mem rfl hk es.symm FG.rf h11 rfl)
end MG
