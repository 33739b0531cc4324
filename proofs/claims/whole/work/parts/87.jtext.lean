/-! BOTH: a text -/
section JX
variable {l : Launch} {G : ab_G} {ol : ab_Ol} {sh : ab_S} {rf : ab_R} {mem : ab_N} {nx : Nat}
theorem ky_one {tp : Row} {L v w : Nat} (h : KyP tp L v) (g : KyP tp L w) : v = w := by
  rcases Nat.lt_trichotomy v w with z | z | z
  · exact absurd h.2.2.1 (g.2.2.2 v z)
  · exact z
  · exact absurd g.2.2.1 (h.2.2.2 w z)
theorem J_text (hI : Inv sh rf mem nx) (hn : nx ≤ 400) : JT l G ol sh rf mem nx := by
  have hI' := hI
  obtain ⟨hS, N, D, T, hI0, hx⟩ := hI
  have hI0' := hI0
  obtain ⟨⟨hN, hD, hR, hW, hTx, h10, hC, hz⟩, hImg, hTap, hSh, hSl, hWa, hKs⟩ := hI0
  intro K h
  obtain ⟨L, h96, t1, t2, t3, t4⟩ := hTap
  have e48 : mem 4 8 = nI T := hR.1.2.2.2.2.2.2.2.trans hTx.1
  have fld : ∀ mem1 mem2, FT mem mem1 → FU mem1 mem2 → Inv sh rf mem2 nx := by
    intro mem1 mem2 F1 F2
    have o : ∀ a, a ≠ 0 → a ≠ 63 → a ≠ 64 → a ≠ 101 → a ≠ 112 → a ≠ 113 → a ≠ 114 → mem2 a = mem a := fun a a0 a1 a2 a3 a4 a5 a6 => (F2.1 a a3 a4 a5 a6).trans (F1.1 a a0 a1 a2)
    have o0 : ∀ k, k ≠ 7 → mem2 0 k = mem 0 k := fun k hk => by rw [F2.1 0 (by decide) (by decide) (by decide) (by decide)]; exact F1.2.1 k hk
    have o1 : ∀ j, ¬ (10 ≤ j ∧ j ≤ 16) → j ≠ 20 → j ≠ 21 → j ≠ 23 → mem2 101 j = mem 101 j := fun j a b c e => by rw [F2.2.1 j a b c e, F1.1 101 (by decide) (by decide) (by decide)]
    have e62 : mem2 62 = mem 62 := o 62 (by decide) (by decide) (by decide) (by decide) (by decide) (by decide) (by decide)
    have e109 : mem2 109 = mem 109 := o 109 (by decide) (by decide) (by decide) (by decide) (by decide) (by decide) (by decide)
    refine Inv.part hS hI0' hx (fun a a1 a2 a3 a4 a5 a6 a7 a8 a9 => o a a1 (fun e => a3 (by unfold SC; omega)) (fun e => a3 (by unfold SC; omega)) a2 (fun e => a3 (by unfold SC; omega)) (fun e => a3 (by unfold SC; omega)) (fun e => a3 (by unfold SC; omega))) (o0 5 (by decide)) (o1 3 (by omega) (by decide) (by decide) (by decide)) (o1 4 (by omega) (by decide) (by decide) (by decide)) ⟨0, by decide, ?_, F2.2.2, by rw [e62, e109]; exact t3, by rw [e62]; exact t4⟩ (hSh.congr fun a ha => o a (by omega) (by omega) (by omega) (by omega) (by omega) (by omega) (by omega)) (hSl.congr fun a ha => o a (by omega) (by omega) (by omega) (by omega) (by omega) (by omega) (by omega)) (hWa.congr (o0 12 (by decide)) (o1 36 (by omega) (by decide) (by decide) (by decide)) (o 67 (by decide) (by decide) (by decide) (by decide) (by decide) (by decide) (by decide)) (o 125 (by decide) (by decide) (by decide) (by decide) (by decide) (by decide) (by decide)))
    rw [F2.1 0 (by decide) (by decide) (by decide) (by decide)]; exact F1.2.2
  have T14 := hTx.2.1
  have ref : ∀ mem1 : ab_N, (∀ a, a ≠ 0 → a ≠ 4 → a ≠ 6 → a ≠ 63 → a ≠ 64 → a < 126 → mem1 a = mem a) → mem1 109 = mem 62 ∧ mem1 101 10 = nI L ∧ (∀ k, k < 11 → mem1 110 k = keyC k) ∧ (∀ k, k < 4 → mem1 111 k = keyI k) ∧ mem1 102 6 = nI T := fun mem1 F => ⟨by rw [F 109 (by decide) (by decide) (by decide) (by decide) (by decide) (by decide), t3], by rw [F 101 (by decide) (by decide) (by decide) (by decide) (by decide) (by decide)]; exact t2, by rw [F 110 (by decide) (by decide) (by decide) (by decide) (by decide) (by decide)]; exact hKs.2.1, by rw [F 111 (by decide) (by decide) (by decide) (by decide) (by decide) (by decide)]; exact hKs.2.2, by rw [F 102 (by decide) (by decide) (by decide) (by decide) (by decide) (by decide)]; exact hTx.1⟩
  have reF : ∀ mem1, FT mem mem1 → mem1 109 = mem 62 ∧ mem1 101 10 = nI L ∧ (∀ k, k < 11 → mem1 110 k = keyC k) ∧ (∀ k, k < 4 → mem1 111 k = keyI k) ∧ mem1 102 6 = nI T := fun mem1 F => ref mem1 (fun a a0 _ _ a1 a2 _ => F.1 a a0 a1 a2)
  refine x_text hS (by omega) h96 t1 e48 T14 t4 (fun hk mem1 F => h _ sh rf mem1 nx hS (by omega) fun K2 h2 => ?_) (fun w hk Mf hr hf mem1 F => h _ sh rf mem1 nx hS (by omega) fun K2 h2 => ?_) (fun w hk M hd eT mem1 F => h _ sh rf mem1 nx hS (by omega) fun K2 h2 => ?_) (fun w hk M hd lT hlen mem1 F1 F2 F3 F4 F5 F6 F7 F8 F9 F10 => h _ _ _ mem1 (nx + 2) (St.grow hS (by omega)) (by omega) fun K2 h2 => ?_)
  · obtain ⟨g1, g2, g3, g4, g5⟩ := reF mem1 F
    refine m_text hS h96 g2 (by rw [g1]; exact t4) g3 g4 g5 T14 (Or.inl ⟨by rw [g1]; exact hk, fun mem2 FU2 => ?_⟩)
    rw [g1]
    exact h2 mem2 (fld mem1 mem2 F FU2)
  · obtain ⟨g1, g2, g3, g4, g5⟩ := reF mem1 F
    refine m_text hS h96 g2 (by rw [g1]; exact t4) g3 g4 g5 T14 (Or.inr ⟨w, by rw [g1]; exact hk, fun v hv => by rw [g1] at hv; exact ky_one hv hk, Mf, by rw [g1]; exact hr, Or.inl ⟨by rw [g1]; exact hf, fun mem2 FU2 => h2 mem2 (fld mem1 mem2 F FU2)⟩⟩)
  · obtain ⟨g1, g2, g3, g4, g5⟩ := reF mem1 F
    have hb := Bud.rch hd.1 (show Bud (M0 (mem 62) L) by
      have := nxt_gt (tp := mem 62) (L := L) (s := skb (mem 62) L 0) (by rw [hk.2.1]; decide)
      unfold Bud M0
      show 0 + 0 < nxt (mem 62) L (skb (mem 62) L 0)
      omega)
    sorry
  · sorry
end JX
