/-! BOTH: tape, sheets, slots, rows, images -/
section JS
variable {l : Launch} {G : ab_G} {ol : ab_Ol} {sh : ab_S} {rf : ab_R} {mem : ab_N} {nx : Nat}
theorem Inv.part {N D T : Nat} {mem' : ab_N} (hS : St sh rf nx) (h : Inv0 mem N D T) (hx : ∀ t, t < T → TxC sh rf mem nx (mem 102) t) (hF : ∀ a, a ≠ 0 → a ≠ 101 → ¬ SC a → a ≠ 62 → a ≠ 109 → ¬ (68 ≤ a ∧ a < 101) → ¬ (117 ≤ a ∧ a ≤ 123) → a ≠ 67 → a ≠ 125 → mem' a = mem a) (h05 : mem' 0 5 = mem 0 5) (h3 : mem' 101 3 = mem 101 3) (h4 : mem' 101 4 = mem 101 4) (tap : ITap mem') (shh : ISh mem') (sl : ISl mem') (wa : IWa mem') : Inv sh rf mem' nx := by
  obtain ⟨a1, b2, b3, b4, b5, b6, b7⟩ := h
  have f : ∀ a, (4 ≤ a ∧ a < 42) ∨ a = 102 ∨ a = 103 ∨ a = 110 ∨ a = 111 ∨ 126 ≤ a → mem' a = mem a := fun a ha => hF a (by omega) (by omega) (by unfold SC; omega) (by omega) (by omega) (by omega) (by omega) (by omega) (by omega)
  refine ⟨hS, N, D, T, ⟨a1.congr (fun a h1 h2 => f a (by omega)) (f _ (by omega)), b2.congr h05 h3 (fun a h1 h2 => f a (by omega)) (f _ (by omega)) (fun k _ => by rw [f 102 (by omega)]), tap, shh, sl, wa, b7.congr h4 (f _ (by omega)) (f _ (by omega))⟩, fun t ht => ?_⟩
  rw [f 102 (by omega)]
  exact (hx t ht).mono fun a ha => f a (by omega)
theorem fdT_b {R : Row} {L : Nat} {a b c : Int32} (h : ∀ j, ∃ q, q < 256 ∧ R j = nI q) (j : Nat) : ∃ q, q < 256 ∧ fdT R L a b c j = nI q := by
  have hb : ∀ x k, ∃ q, q < 256 ∧ byt x k = nI q := fun x k => ⟨_, Nat.mod_lt _ (by decide), rfl⟩
  unfold fdT
  split
  · exact hb _ _
  · split
    · exact hb _ _
    · split
      · exact hb _ _
      · exact h j
theorem J_feed (hI : Inv sh rf mem nx) {a b c : Int32} : JC l G ol mX_feed mM_feed [.int a, .int b, .int c] sh rf mem nx := by
  have hI' := hI
  obtain ⟨hS, N, D, T, hI0, hx⟩ := hI
  have hI0' := hI0
  obtain ⟨⟨hN, hD, hR, hW, hTx, h10, hC, hz⟩, hImg, hTap, hSh, hSl, hWa, hKs⟩ := hI0
  intro K h
  obtain ⟨L, h96, t1, t2, t3, t4⟩ := hTap
  refine x_feed hS h96 t1 (fun q => h _ mem fun K2 h2 => ?_) (fun q => h _ _ fun K2 h2 => ?_)
  · exact m_feed hS h96 t2 (fun _ => h2 mem hI') (fun y => absurd y q)
  · refine m_feed hS h96 (by rw [ab_w_ne _ _ _ (by decide), row_ne _ _ (by decide)]; exact t2) (fun y => absurd q y) (fun _ => h2 _ ?_)
    have e9 : (ab_w (ab_row mem 62 (fdT (mem 62) L a b c)) 0 7 (nI (L + 12))) 109 = mem 109 := by rw [ab_w_ne _ _ _ (by decide), row_ne _ _ (by decide)]
    rw [e9]
    generalize hm : ab_w (ab_row (ab_w (ab_row mem 62 (fdT (mem 62) L a b c)) 0 7 (nI (L + 12))) 109 (fdT (mem 109) L a b c)) 101 10 (nI (L + 12)) = mem2
    have o : ∀ q, q ≠ 0 → q ≠ 101 → q ≠ 62 → q ≠ 109 → mem2 q = mem q := fun q q1 q2 q3 q4 => by rw [← hm, ab_w_ne _ _ _ q2, row_ne _ _ q4, ab_w_ne _ _ _ q1, row_ne _ _ q3]
    have o0 : ∀ k, k ≠ 7 → mem2 0 k = mem 0 k := fun k hk => by rw [← hm, ab_w_ne _ _ _ (by decide), row_ne _ _ (by decide), w_ne _ _ (Or.inr hk), row_ne _ _ (by decide)]
    have o1 : ∀ k, k ≠ 10 → mem2 101 k = mem 101 k := fun k hk => by rw [← hm, w_ne _ _ (Or.inr hk), row_ne _ _ (by decide), ab_w_ne _ _ _ (by decide), row_ne _ _ (by decide)]
    have e62 : mem2 62 = fdT (mem 62) L a b c := by rw [← hm, ab_w_ne _ _ _ (by decide), row_ne _ _ (by decide), ab_w_ne _ _ _ (by decide), row_at]
    have e109 : mem2 109 = fdT (mem 109) L a b c := by rw [← hm, ab_w_ne _ _ _ (by decide), row_at]
    have e07 : mem2 0 7 = nI (L + 12) := by rw [← hm, ab_w_ne _ _ _ (by decide), row_ne _ _ (by decide), w_eq]
    have e10 : mem2 101 10 = nI (L + 12) := by rw [← hm, w_eq]
    refine Inv.part hS hI0' hx (fun a a1 a2 a3 a4 a5 a6 a7 a8 a9 => o a a1 a2 a4 a5) (o0 5 (by decide)) (o1 3 (by decide)) (o1 4 (by decide)) ⟨L + 12, q, e07, e10, by rw [e62, e109, t3], fun j => by rw [e62]; exact fdT_b t4 j⟩ (hSh.congr fun a ha => o a (by omega) (by omega) (by omega) (by omega)) (hSl.congr fun a ha => o a (by omega) (by omega) (by omega) (by omega)) (hWa.congr (o0 12 (by decide)) (o1 36 (by decide)) (o 67 (by decide) (by decide) (by decide) (by decide)) (o 125 (by decide) (by decide) (by decide) (by decide)))
theorem J_trim (hI : Inv sh rf mem nx) {n : Int32} : JC l G ol mX_trim mM_trim [.int n] sh rf mem nx := by
  have hI' := hI
  obtain ⟨hS, N, D, T, hI0, hx⟩ := hI
  have hI0' := hI0
  obtain ⟨⟨hN, hD, hR, hW, hTx, h10, hC, hz⟩, hImg, hTap, hSh, hSl, hWa, hKs⟩ := hI0
  intro K h
  obtain ⟨L, h96, t1, t2, t3, t4⟩ := hTap
  refine x_trim hS h96 t1 (fun q => h _ mem fun K2 h2 => ?_) (fun k hk ek => h _ _ fun K2 h2 => ?_)
  · exact m_trim hS h96 t2 (fun _ => h2 mem hI') (fun k hk ek => absurd (by rw [ek]; exact ⟨nI_pos' (by omega), nI_le hk (by omega)⟩) q)
  · subst ek
    refine m_trim hS h96 (by rw [ab_w_ne _ _ _ (by decide)]; exact t2) (fun y => absurd ⟨nI_pos' (by omega), nI_le hk (by omega)⟩ y) (fun k' hk' ek' => h2 _ ?_)
    generalize hm : ab_w (ab_w mem 0 7 (nI k)) 101 10 (nI k) = mem2
    have o : ∀ q, q ≠ 0 → q ≠ 101 → mem2 q = mem q := fun q q1 q2 => by rw [← hm, ab_w_ne _ _ _ q2, ab_w_ne _ _ _ q1]
    have o0 : ∀ j, j ≠ 7 → mem2 0 j = mem 0 j := fun j hj => by rw [← hm, ab_w_ne _ _ _ (by decide), w_ne _ _ (Or.inr hj)]
    have o1 : ∀ j, j ≠ 10 → mem2 101 j = mem 101 j := fun j hj => by rw [← hm, w_ne _ _ (Or.inr hj), ab_w_ne _ _ _ (by decide)]
    have e07 : mem2 0 7 = nI k := by rw [← hm, ab_w_ne _ _ _ (by decide), w_eq]
    have e10 : mem2 101 10 = nI k := by rw [← hm, w_eq]
    refine Inv.part hS hI0' hx (fun a a1 a2 a3 a4 a5 a6 a7 a8 a9 => o a a1 a2) (o0 5 (by decide)) (o1 3 (by decide)) (o1 4 (by decide)) ⟨k, by omega, e07, e10, by rw [o 62 (by decide) (by decide), o 109 (by decide) (by decide), t3], fun j => by rw [o 62 (by decide) (by decide)]; exact t4 j⟩ (hSh.congr fun a ha => o a (by omega) (by omega)) (hSl.congr fun a ha => o a (by omega) (by omega)) (hWa.congr (o0 12 (by decide)) (o1 36 (by decide)) (o 67 (by decide) (by decide)) (o 125 (by decide) (by decide)))
theorem J_tell (hI : Inv sh rf mem nx) {v : Int32} : JC l G ol mX_tell mM_tell [.int v] sh rf mem nx := by
  have hI' := hI
  obtain ⟨hS, N, D, T, hI0, hx⟩ := hI
  have hI0' := hI0
  obtain ⟨⟨hN, hD, hR, hW, hTx, h10, hC, hz⟩, hImg, hTap, hSh, hSl, hWa, hKs⟩ := hI0
  intro K h
  obtain ⟨W, hW6, w1, w2, w3⟩ := hWa
  refine x_tell hS hW6 w1 (fun q => h _ mem fun K2 h2 => ?_) (fun q => h _ _ fun K2 h2 => ?_)
  · exact m_tell hS hW6 w2 (fun _ => h2 mem hI') (fun y => by omega)
  · refine m_tell hS hW6 (by rw [ab_w_ne _ _ _ (by decide), ab_w_ne _ _ _ (by decide)]; exact w2) (fun y => by omega) (fun _ => h2 _ ?_)
    generalize hm : ab_w (ab_w (ab_w (ab_w mem 67 W v) 0 12 (nI (W + 1))) 125 W v) 101 36 (nI (W + 1)) = mem2
    have o : ∀ q, q ≠ 0 → q ≠ 101 → q ≠ 67 → q ≠ 125 → mem2 q = mem q := fun q q1 q2 q3 q4 => by rw [← hm, ab_w_ne _ _ _ q2, ab_w_ne _ _ _ q4, ab_w_ne _ _ _ q1, ab_w_ne _ _ _ q3]
    have o0 : ∀ j, j ≠ 12 → mem2 0 j = mem 0 j := fun j hj => by rw [← hm, ab_w_ne _ _ _ (by decide), ab_w_ne _ _ _ (by decide), w_ne _ _ (Or.inr hj), ab_w_ne _ _ _ (by decide)]
    have o1 : ∀ j, j ≠ 36 → mem2 101 j = mem 101 j := fun j hj => by rw [← hm, w_ne _ _ (Or.inr hj), ab_w_ne _ _ _ (by decide), ab_w_ne _ _ _ (by decide), ab_w_ne _ _ _ (by decide)]
    have e0 : mem2 0 12 = nI (W + 1) := by rw [← hm, ab_w_ne _ _ _ (by decide), ab_w_ne _ _ _ (by decide), w_eq]
    have e1 : mem2 101 36 = nI (W + 1) := by rw [← hm, w_eq]
    have e67 : mem2 67 = upd (mem 67) W v := by rw [← hm, ab_w_ne _ _ _ (by decide), ab_w_ne _ _ _ (by decide), ab_w_ne _ _ _ (by decide), ab_w_self]
    have e125 : mem2 125 = upd (mem 125) W v := by rw [← hm, ab_w_ne _ _ _ (by decide), ab_w_self, ab_w_ne _ _ _ (by decide), ab_w_ne _ _ _ (by decide)]
    refine Inv.part hS hI0' hx (fun a a1 a2 a3 a4 a5 a6 a7 a8 a9 => o a a1 a2 a8 a9) (o0 5 (by decide)) (o1 3 (by decide)) (o1 4 (by decide)) (hTap.congr (o0 7 (by decide)) (o1 10 (by decide)) (o 62 (by decide) (by decide) (by decide) (by decide)) (o 109 (by decide) (by decide) (by decide) (by decide))) (hSh.congr fun a ha => o a (by omega) (by omega) (by omega) (by omega)) (hSl.congr fun a ha => o a (by omega) (by omega) (by omega) (by omega)) ⟨W + 1, by omega, e0, e1, by rw [e67, e125, w3]⟩
theorem RO.w {m1 m2 : ab_N} {a k : Nat} {v : Int32} (h : RO m1 m2) (ha : ¬ SC a) : RO (ab_w m1 a k v) (ab_w m2 a k v) := fun b hb => by
  by_cases e : b = a
  · subst e; rw [ab_w_self, ab_w_self, h b ha]
  · rw [ab_w_ne _ _ _ e, ab_w_ne _ _ _ e]; exact h b hb
theorem Inv.chk {N D T : Nat} (hS : St sh rf nx) (h : Inv0 mem N D T) (hx : ∀ t, t < T → TxC sh rf mem nx (mem 102) t) : Inv sh rf (ab_w (ab_w mem 0 12 0) 101 36 0) nx := by
  have h' := h
  obtain ⟨a1, b2, b3, b4, b5, b6, b7⟩ := h
  obtain ⟨W, hW6, w1, w2, w3⟩ := b6
  generalize hm : ab_w (ab_w mem 0 12 0) 101 36 0 = mem2
  have o : ∀ q, q ≠ 0 → q ≠ 101 → mem2 q = mem q := fun q q1 q2 => by rw [← hm, ab_w_ne _ _ _ q2, ab_w_ne _ _ _ q1]
  have o0 : ∀ j, j ≠ 12 → mem2 0 j = mem 0 j := fun j hj => by rw [← hm, ab_w_ne _ _ _ (by decide), w_ne _ _ (Or.inr hj)]
  have o1 : ∀ j, j ≠ 36 → mem2 101 j = mem 101 j := fun j hj => by rw [← hm, w_ne _ _ (Or.inr hj), ab_w_ne _ _ _ (by decide)]
  have e0 : mem2 0 12 = nI 0 := by rw [← hm, ab_w_ne _ _ _ (by decide), w_eq]; rfl
  have e1 : mem2 101 36 = nI 0 := by rw [← hm, w_eq]; rfl
  exact Inv.part hS h' hx (fun a a1 a2 a3 a4 a5 a6 a7 a8 a9 => o a a1 a2) (o0 5 (by decide)) (o1 3 (by decide)) (o1 4 (by decide)) (b3.congr (o0 7 (by decide)) (o1 10 (by decide)) (o 62 (by decide) (by decide)) (o 109 (by decide) (by decide))) (b4.congr fun a ha => o a (by omega) (by omega)) (b5.congr fun a ha => o a (by omega) (by omega)) ⟨0, by omega, e0, e1, by rw [o 67 (by decide) (by decide), o 125 (by decide) (by decide), w3]⟩
theorem J_check (hI : Inv sh rf mem nx) {n : Int32} : JC l G ol mX_check mM_check [.int n] sh rf mem nx := by
  have hI' := hI
  obtain ⟨hS, N, D, T, hI0, hx⟩ := hI
  have hI0' := hI0
  obtain ⟨⟨hN, hD, hR, hW, hTx, h10, hC, hz⟩, hImg, hTap, hSh, hSl, hWa, hKs⟩ := hI0
  intro K h
  obtain ⟨W, hW6, w1, w2, w3⟩ := hWa
  obtain ⟨i1, i2, i3⟩ := hImg
  have hc := Inv.chk hS hI0' hx
  have m1 : ∀ a, a ≠ 0 → ab_w mem 0 12 0 a = mem a := fun a ha => ab_w_ne _ _ _ ha
  rcases i3 with i3 | ⟨i3, N', D', T', j1, j2, j3, j4, j5, j6, j7, j8⟩
  · refine x_check (N' := 0) (D' := 0) (g := fun _ => 0) (o := none) hS hW6 w1 (Or.inl (i1.trans i3)) (fun q => h _ _ fun K2 h2 => ?_) (fun q z => h _ _ fun K2 h2 => ?_) (fun k k1 hk ek z => absurd (z.symm.trans (i1.trans i3)) (by decide))
    · exact m_check (N' := 0) (D' := 0) (T' := 0) hS hW6 (by rw [m1 _ (by decide)]; exact w2) (by rw [m1 _ (by decide)]; exact hKs.1) (by rw [m1 _ (by decide)]; exact hz) (by rw [m1 _ (by decide)]; exact i2) (Or.inl (by rw [m1 _ (by decide)]; exact i3)) (fun _ => h2 _ hc) (fun y => absurd y q) (fun k k1 hk ek => absurd (by rw [ek]; exact ⟨nI_le (a := 1) k1 (by omega), nI_le (b := 30) (by omega) (by decide)⟩) q)
    · exact m_check (N' := 0) (D' := 0) (T' := 0) hS hW6 (by rw [m1 _ (by decide)]; exact w2) (by rw [m1 _ (by decide)]; exact hKs.1) (by rw [m1 _ (by decide)]; exact hz) (by rw [m1 _ (by decide)]; exact i2) (Or.inl (by rw [m1 _ (by decide)]; exact i3)) (fun y => absurd q y) (fun _ _ => h2 _ hc) (fun k k1 hk ek y => absurd (y.symm.trans ((congrFun (m1 101 (by decide)) 3).trans i3)) (by decide))
  · have k5 : mem 0 5 = 1 := i1.trans i3
    refine x_check hS hW6 w1 (Or.inr ⟨k5, j2, j4, j5, j3, lw_img hTx j6 j1 j8 j7 hx (k := 0) (by decide)⟩) (fun q => h _ _ fun K2 h2 => ?_) (fun q z => absurd (z.symm.trans k5) (by decide)) (fun k k1 hk ek _ mem1 F => h _ mem1 fun K2 h2 => ?_)
    · exact m_check (N' := N') (D' := D') (T' := T') hS hW6 (by rw [m1 _ (by decide)]; exact w2) (by rw [m1 _ (by decide)]; exact hKs.1) (by rw [m1 _ (by decide)]; exact hz) (by rw [m1 _ (by decide)]; exact i2) (Or.inr (by rw [m1 101 (by decide), m1 103 (by decide)]; exact ⟨i3, j2, j5, j3, j6⟩)) (fun _ => h2 _ hc) (fun y => absurd y q) (fun k k1 hk ek => absurd (by rw [ek]; exact ⟨nI_le (a := 1) k1 (by omega), nI_le (b := 30) (by omega) (by decide)⟩) q)
    · subst ek
      have F' := RO.T F
      have s1 : mem1 101 = mem 101 := (F' 101 (by unfold SC; omega)).trans (m1 101 (by decide))
      have s2 : mem1 102 = mem 102 := (F' 102 (by unfold SC; omega)).trans (m1 102 (by decide))
      have s3 : mem1 103 = mem 103 := (F' 103 (by unfold SC; omega)).trans (m1 103 (by decide))
      have s4 : mem1 125 = mem 125 := (F' 125 (by unfold SC; omega)).trans (m1 125 (by decide))
      refine m_check (N' := N') (D' := D') (T' := T') (W := W) hS hW6 (by rw [s1]; exact w2) (by rw [s1]; exact hKs.1) (by rw [s2]; exact hz) (by rw [s3]; exact i2) (Or.inr (by rw [s1, s3]; exact ⟨i3, j2, j5, j3, j6⟩)) (fun y => absurd ⟨nI_le (a := 1) k1 (by omega), nI_le (b := 30) (by omega) (by decide)⟩ y) (fun _ y => absurd (y.symm.trans ((congrFun s1 3).trans i3)) (by decide)) (fun k' k1' hk' ek' _ mem2 F2 => ?_)
      have := ixe ek' (by omega) (by omega)
      subst this
      rw [s3, s4, ← w3]
      exact h2 mem2 (hc.ro ((F'.w (by unfold SC; omega)).trans (RO.S F2)))
theorem J_keep (hI : Inv sh rf mem nx) : JC l G ol mX_keep mM_keep [] sh rf mem nx := by
  have hI' := hI
  obtain ⟨hS, N, D, T, hI0, hx⟩ := hI
  have hI0' := hI0
  obtain ⟨⟨hN, hD, hR, hW, hTx, h10, hC, hz⟩, hImg, hTap, hSh, hSl, hWa, hKs⟩ := hI0
  intro K h
  refine x_keep hS hN hR fun mem1 F1 F0 e5 R1 C1 a1 => h _ mem1 fun K2 h2 => ?_
  have e2 : mem1 102 = mem 102 := F1 102 (by decide) (by omega)
  refine m_keep (f := mem 102) (N := N) hS e2 hW.1 fun mem2 G1 G0 g3 E1 E2 => h2 mem2 ?_
  have o : ∀ a, a ≠ 0 → a ≠ 101 → a ≠ 103 → (a < 23 ∨ 42 ≤ a) → mem2 a = mem a := fun a q0 q1 q3 q => by rw [G1 a q1 q3, F1 a q0 q]
  have o0 : ∀ k, k ≠ 5 → mem2 0 k = mem 0 k := fun k hk => by rw [G1 0 (by decide) (by decide), F0 k hk]
  have o1 : ∀ k, k ≠ 3 → mem2 101 k = mem 101 k := fun k hk => by rw [G0 k hk, F1 101 (by decide) (by omega)]
  have e103 : mem2 103 = mem 102 := by
    funext k
    rcases Nat.lt_or_ge k 1483 with g | g
    · exact E1 k g
    · rw [E2 k g, F1 103 (by decide) (by omega), hImg.2.1 k g, hz k g]
  have e102 := o 102 (by decide) (by decide) (by decide) (by omega)
  refine ⟨hS, N, D, T, ⟨?_, ⟨?_, ?_, Or.inr ⟨g3, N, D, T, Nat.le_refl _, hN, hD, ?_, ?_, ?_, ?_, ?_⟩⟩, hTap.congr (o0 7 (by decide)) (o1 10 (by decide)) (o 62 (by decide) (by decide) (by decide) (by omega)) (o 109 (by decide) (by decide) (by decide) (by omega)), hSh.congr (fun a ha => o a (by omega) (by omega) (by omega) (by omega)), hSl.congr (fun a ha => o a (by omega) (by omega) (by omega) (by omega)), hWa.congr (o0 12 (by decide)) (o1 36 (by decide)) (o 67 (by decide) (by decide) (by decide) (by omega)) (o 125 (by decide) (by decide) (by decide) (by omega)), hKs.congr (o1 4 (by decide)) (o 110 (by decide) (by decide) (by decide) (by omega)) (o 111 (by decide) (by decide) (by decide) (by omega))⟩, fun t ht => ?_⟩
  · exact hI0'.1.congr (fun a h1 h2 => o a (by omega) (by omega) (by omega) (by omega)) e102
  · rw [g3, G1 0 (by decide) (by decide), e5]
  · intro k hk; rw [e103]; exact hz k hk
  · rw [e103]
    exact R1.congr hN fun a h1 h2 => G1 a (by omega) (by omega)
  · rw [e103]; exact hW
  · rw [e103]; exact hTx
  · intro k hk
    rw [e103, G1 25 (by decide) (by decide), C1 k hk]
    exact hC k hk
  · rw [e103, e102]
    exact fun t ht => ⟨rfl, rfl, fun j hj => rfl⟩
  · rw [e102]
    exact (hx t ht).mono fun a ha => o a (by omega) (by omega) (by omega) (by omega)
theorem J_back (hI : Inv sh rf mem nx) : JC l G ol mX_back mM_back [] sh rf mem nx := by
  have hI' := hI
  obtain ⟨hS, N, D, T, hI0, hx⟩ := hI
  have hI0' := hI0
  obtain ⟨⟨hN, hD, hR, hW, hTx, h10, hC, hz⟩, hImg, hTap, hSh, hSl, hWa, hKs⟩ := hI0
  intro K h
  obtain ⟨i1, i2, i3⟩ := hImg
  rcases i3 with i3 | ⟨i3, N', D', T', j1, j2, j3, j4, j5, j6, j7, j8⟩
  · refine x_back (N' := 0) (g := fun _ => 0) hS (Or.inl (i1.trans i3)) (fun z => h _ mem fun K2 h2 => ?_) (fun z => absurd (z.symm.trans (i1.trans i3)) (by decide))
    exact m_back (N' := 0) hS (Or.inl i3) (fun _ => h2 mem hI') (fun y => absurd (y.symm.trans i3) (by decide))
  · have k5 : mem 0 5 = 1 := i1.trans i3
    refine x_back hS (Or.inr ⟨k5, j2, j4⟩) (fun z => absurd (z.symm.trans k5) (by decide)) (fun _ mem1 F1 R1 C1 a1 => h _ mem1 fun K2 h2 => ?_)
    have f1 : ∀ a, 23 ≤ a → mem1 a = mem a := fun a ha => F1 a (by omega)
    refine m_back (N' := N') hS (Or.inr (by rw [f1 101 (by decide), f1 103 (by decide)]; exact ⟨i3, j5.1⟩)) (fun y => absurd (y.symm.trans ((congrFun (f1 101 (by decide)) 3).trans i3)) (by decide)) (fun _ mem2 G1 E1 E2 => h2 mem2 ?_)
    have o : ∀ a, a ≠ 102 → (a < 4 ∨ 23 ≤ a) → mem2 a = mem a := fun a h1 h2 => by rw [G1 a h1, F1 a h2]
    have e102 : mem2 102 = mem 103 := by
      funext k
      rcases Nat.lt_or_ge k 1483 with g | g
      · rw [E1 k g, f1 103 (by decide)]
      · rw [E2 k g, f1 102 (by decide), hz k g, i2 k g]
    refine ⟨hS, N', D', T', ⟨⟨j2, j3, ?_, ?_, ?_, ?_, ?_, ?_⟩, ⟨?_, ?_, Or.inr ⟨?_, N', D', T', Nat.le_refl _, j2, j3, ?_, ?_, ?_, ?_, ?_⟩⟩, hTap.congr (by rw [o 0 (by decide) (by omega)]) (by rw [o 101 (by decide) (by omega)]) (o 62 (by decide) (by omega)) (o 109 (by decide) (by omega)), hSh.congr (fun a ha => o a (by omega) (by omega)), hSl.congr (fun a ha => o a (by omega) (by omega)), hWa.congr (by rw [o 0 (by decide) (by omega)]) (by rw [o 101 (by decide) (by omega)]) (o 67 (by decide) (by omega)) (o 125 (by decide) (by omega)), hKs.congr (by rw [o 101 (by decide) (by omega)]) (o 110 (by decide) (by omega)) (o 111 (by decide) (by omega))⟩, fun t ht => ?_⟩
    · rw [e102]; exact R1.congr j2 fun a h1 h2 => G1 a (by omega)
    · rw [e102]; exact j5
    · rw [e102]; exact j6
    · rw [G1 4 (by decide), a1]; decide
    · intro k hk
      rw [e102, G1 6 (by decide), C1 k hk]
      exact j7 k hk
    · intro k hk; rw [e102]; exact i2 k hk
    · rw [o 0 (by decide) (by omega), o 101 (by decide) (by omega)]; exact i1
    · intro k hk; rw [o 103 (by decide) (by omega)]; exact i2 k hk
    · rw [o 101 (by decide) (by omega)]; exact i3
    · rw [o 103 (by decide) (by omega)]; exact j4.congr j2 fun a h1 h2 => o a (by omega) (by omega)
    · rw [o 103 (by decide) (by omega)]; exact j5
    · rw [o 103 (by decide) (by omega)]; exact j6
    · rw [o 103 (by decide) (by omega), o 25 (by decide) (by omega)]; exact j7
    · rw [o 103 (by decide) (by omega), e102]
      exact fun t ht => ⟨rfl, rfl, fun j hj => rfl⟩
    · rw [e102]
      exact ((hx t (by omega)).congr (hTx.2.2 t (by omega)) (j8 t ht).1 (j8 t ht).2.1 (j8 t ht).2.2).mono fun a ha => o a (by omega) (by omega)
/-- a sheet changes on both sides -/
theorem Inv.sheets {N D T : Nat} {mem' : ab_N} (hS : St sh rf nx) (h : Inv0 mem N D T) (hx : ∀ t, t < T → TxC sh rf mem nx (mem 102) t) (hF : ∀ a, ¬ (68 ≤ a ∧ a < 76) → a ≠ 117 → a ≠ 118 → a ≠ 119 → a ≠ 124 → mem' a = mem a) (shh : ISh mem') : Inv sh rf mem' nx := by
  have h' := h
  obtain ⟨a1, b2, b3, b4, b5, b6, b7⟩ := h
  refine Inv.part hS h' hx (fun a a1 a2 a3 a4 a5 a6 a7 a8 a9 => hF a (by omega) (by omega) (by omega) (by omega) (by unfold SC at a3; omega)) (by rw [hF 0 (by omega) (by decide) (by decide) (by decide) (by decide)]) (by rw [hF 101 (by omega) (by decide) (by decide) (by decide) (by decide)]) (by rw [hF 101 (by omega) (by decide) (by decide) (by decide) (by decide)]) (b3.congr (by rw [hF 0 (by omega) (by decide) (by decide) (by decide) (by decide)]) (by rw [hF 101 (by omega) (by decide) (by decide) (by decide) (by decide)]) (hF 62 (by omega) (by decide) (by decide) (by decide) (by decide)) (hF 109 (by omega) (by decide) (by decide) (by decide) (by decide))) shh (b5.congr fun a ha => hF a (by omega) (by omega) (by omega) (by omega) (by omega)) (b6.congr (by rw [hF 0 (by omega) (by decide) (by decide) (by decide) (by decide)]) (by rw [hF 101 (by omega) (by decide) (by decide) (by decide) (by decide)]) (hF 67 (by omega) (by decide) (by decide) (by decide) (by decide)) (hF 125 (by omega) (by decide) (by decide) (by decide) (by decide)))
theorem rbeg_o {r b k : Nat} {s n : Int32} (h1 : b ≠ r) (h2 : b ≠ r + 1) : rbeg mem r s n b k = mem b k := by unfold rbeg; rw [if_neg (fun q => h1 q.1), if_neg (fun q => h1 q.1), if_neg (fun q => h2 q.1)]
theorem J_sheet (hI : Inv sh rf mem nx) {s so n : Int32} : JC l G ol mX_sheet mM_sheet [.int s, .int so, .int n] sh rf mem nx := by
  have hI' := hI
  obtain ⟨hS, N, D, T, hI0, hx⟩ := hI
  have hI0' := hI0
  obtain ⟨⟨hN, hD, hR, hW, hTx, h10, hC, hz⟩, hImg, hTap, hSh, hSl, hWa, hKs⟩ := hI0
  intro K h
  have i3 : ∀ i, i < 4 → (0 : Int32) ≤ nI i ∧ nI i ≤ 3 := fun i hi => ⟨nI_pos' (by omega), nI_le (b := 3) (by omega) (by decide)⟩
  have fin : ∀ i so (v : Int32), i < 4 → (-1 ≤ so ∧ so ≤ 1) → (∃ z, z ≤ 24 ∧ v = nI z) → ∀ mem' : ab_N, (∀ a, a ≠ 117 → a ≠ 118 → a ≠ 119 → mem' a = (rbeg mem (shC i) so v) a) → mem' 117 = upd ((rbeg mem (shC i) so v) 117) i so → mem' 118 = upd ((rbeg mem (shC i) so v) 118) i v → (∀ k, mem' 119 k = if 24 * i ≤ k ∧ k < 24 * i + 24 then 0 else (rbeg mem (shC i) so v) 119 k) → Inv sh rf mem' nx := by
    intro i so v hi hso hv mem' F E7 E8 E9
    have c : ∀ b k, ¬ (68 ≤ b ∧ b < 76) → rbeg mem (shC i) so v b k = mem b k := fun b k hb => rbeg_o (by unfold shC; omega) (by unfold shC; omega)
    have c' : ∀ b, ¬ (68 ≤ b ∧ b < 76) → rbeg mem (shC i) so v b = mem b := fun b hb => funext fun k => c b k hb
    rw [c' 117 (by omega)] at E7
    rw [c' 118 (by omega)] at E8
    refine Inv.sheets hS hI0' hx (fun a h1 h2 h3 h4 _ => by rw [F a h2 h3 h4]; exact c' a h1) fun j hj => ?_
    have e9 : ∀ k, k < 24 → mem' 119 (24 * j + k) = if j = i then 0 else mem 119 (24 * j + k) := by
      intro k hk
      rw [E9, c _ _ (by omega)]
      by_cases y : j = i
      · rw [if_pos y, if_pos (by omega)]
      · rw [if_neg y, if_neg (by omega)]
    have fj : ∀ k, mem' (shC j) k = rbeg mem (shC i) so v (shC j) k := fun k => by rw [F _ (by unfold shC; omega) (by unfold shC; omega) (by unfold shC; omega)]
    have fj1 : ∀ k, mem' (shC j + 1) k = rbeg mem (shC i) so v (shC j + 1) k := fun k => by rw [F _ (by unfold shC; omega) (by unfold shC; omega) (by unfold shC; omega)]
    by_cases y : j = i
    · subst y
      rw [E7, E8, pk_us, pk_us, fj, fj]
      refine ⟨?_, ?_, ?_, fun k hk => ?_, fun k hk => ?_⟩
      · unfold rbeg; rw [if_pos ⟨rfl, rfl⟩]
      · obtain ⟨q1, q2⟩ := hso
        simp only [Int32.le_iff_toInt_le, ← Int32.toInt_inj, show (-1 : Int32).toInt = -1 by decide, show (0 : Int32).toInt = 0 by decide, show (1 : Int32).toInt = 1 by decide] at *
        omega
      · obtain ⟨z, hz1, ez⟩ := hv
        refine ⟨z, hz1, ?_, ez⟩
        unfold rbeg; rw [if_neg (fun q => absurd q.2 (by decide)), if_pos ⟨rfl, rfl⟩]; exact ez
      · rw [fj1, e9 k hk, if_pos rfl]
        unfold rbeg; rw [if_neg (fun q => absurd q.1 (by omega)), if_neg (fun q => absurd q.1 (by omega)), if_pos ⟨rfl, hk⟩]
      · right
        show -99999 ≤ (mem' 119 (24 * j + k)).toInt ∧ (mem' 119 (24 * j + k)).toInt ≤ 99999
        rw [e9 k hk, if_pos rfl]
        decide
    · obtain ⟨s1, s2, s3, s4, s5⟩ := hSh j hj
      have cj : ∀ k, rbeg mem (shC i) so v (shC j) k = mem (shC j) k := fun k => rbeg_o (by unfold shC; omega) (by unfold shC; omega)
      have cj1 : ∀ k, rbeg mem (shC i) so v (shC j + 1) k = mem (shC j + 1) k := fun k => rbeg_o (by unfold shC; omega) (by unfold shC; omega)
      rw [E7, E8, pk_un y, pk_un y, fj, fj, cj, cj]
      refine ⟨s1, s2, s3, fun k hk => ?_, fun k hk => ?_⟩
      · rw [fj1, cj1, e9 k hk, if_neg y]; exact s4 k hk
      · show mem' 119 (24 * j + k) = -1000000005 ∨ -99999 ≤ (mem' 119 (24 * j + k)).toInt ∧ (mem' 119 (24 * j + k)).toInt ≤ 99999
        rw [e9 k hk, if_neg y]; exact s5 k hk
  refine x_sheet hS (fun q => h _ mem fun K2 h2 => ?_) (fun q y z => h _ mem fun K2 h2 => ?_) (fun i hi e1 e2 => h _ _ fun K2 h2 => ?_) (fun i k hi hk e1 e2 y hso => h _ _ fun K2 h2 => ?_)
  · refine m_sheet hS (fun _ => h2 mem hI') (fun y => absurd y q) (fun i v hi e1 hso hv => absurd ⟨by rw [e1]; exact i3 i hi, hso, fun y => ?_⟩ q)
    rcases hv with hv | ⟨_, k, hk, ek, _⟩
    · exact absurd hv.1 y
    · rw [ek]; exact nI_le (b := 24) hk (by decide)
  · refine m_sheet hS (fun y2 => absurd q y2) (fun _ _ _ => h2 mem hI') (fun i v hi e1 hso hv => ?_)
    rcases hv with hv | ⟨_, k, hk, ek, _⟩
    · exact absurd hv.1 y
    · rw [ek] at z; exact absurd z (nI_pos (by omega))
  · subst e1; subst e2
    refine m_sheet hS (fun y => absurd ⟨i3 i hi, by decide, fun z => absurd rfl z⟩ y) (fun _ y => absurd rfl y) (fun i' v hi' e1 hso hv mem' F E7 E8 E9 => ?_)
    have := ixe e1 (by omega) (by omega)
    subst this
    rcases hv with ⟨_, rfl⟩ | ⟨y, _⟩
    · exact h2 mem' (fin i (-1) 0 hi (by decide) ⟨0, by omega, rfl⟩ mem' F E7 E8 E9)
    · exact absurd rfl y
  · subst e1; subst e2
    refine m_sheet hS (fun z => absurd ⟨i3 i hi, hso, fun _ => nI_le (b := 24) hk (by decide)⟩ z) (fun _ _ z => absurd z (nI_pos (by omega))) (fun i' v hi' e1 hso hv mem' F E7 E8 E9 => ?_)
    have := ixe e1 (by omega) (by omega)
    subst this
    rcases hv with ⟨z, _⟩ | ⟨_, k', hk', ek', rfl⟩
    · exact absurd z y
    · exact h2 mem' (fin i so (nI k) hi hso ⟨k, hk, rfl⟩ mem' F E7 E8 E9)
theorem mrk_some {so v x : Int32} {ok : Prop} [Decidable ok] (h : (mrk so ok v).2 = some x) : ok ∧ (x = -1000000005 ∨ (-99999 ≤ x.toInt ∧ x.toInt ≤ 99999)) := by
  unfold mrk at h
  by_cases c1 : so = -1
  · rw [if_pos c1] at h; cases h
  rw [if_neg c1] at h
  by_cases c2 : ok
  · refine ⟨c2, ?_⟩
    rw [if_neg (fun z => z c2)] at h
    by_cases c3 : so = 0
    · rw [if_pos c3] at h
      by_cases c4 : v = -1000000005
      · rw [if_pos c4] at h; cases h
      · rw [if_neg c4] at h
        cases h
        right
        rw [Int16.toInt_toInt32]
        have a1 := Int16.le_toInt v.toInt16
        have a2 := Int16.toInt_lt v.toInt16
        constructor <;> omega
    · rw [if_neg c3] at h
      by_cases c4 : ¬ v = -1000000005 ∧ ¬ (-99999 ≤ v ∧ v ≤ 99999)
      · rw [if_pos c4] at h; cases h
      · rw [if_neg c4] at h
        cases h
        by_cases c5 : v = -1000000005
        · exact Or.inl c5
        · right
          have := Classical.byContradiction (fun z => c4 ⟨c5, z⟩)
          simp only [Int32.le_iff_toInt_le, show (-99999 : Int32).toInt = -99999 by decide, show (99999 : Int32).toInt = 99999 by decide] at this
          exact this
  · rw [if_pos c2] at h; cases h
theorem J_mark (hI : Inv sh rf mem nx) {s p v : Int32} : JC l G ol mX_mark mM_mark [.int s, .int p, .int v] sh rf mem nx := by
  have hI' := hI
  obtain ⟨hS, N, D, T, hI0, hx⟩ := hI
  have hI0' := hI0
  obtain ⟨⟨hN, hD, hR, hW, hTx, h10, hC, hz⟩, hImg, hTap, hSh, hSl, hWa, hKs⟩ := hI0
  intro K h
  have i3 : ∀ i, i < 4 → (0 : Int32) ≤ nI i ∧ nI i ≤ 3 := fun i hi => ⟨nI_pos' (by omega), nI_le (b := 3) (by omega) (by decide)⟩
  refine x_mark hS (sz_x hSh) (fun q => h _ mem fun K2 h2 => ?_) (fun i hi e1 => h _ _ fun K2 h2 => ?_)
  · exact m_mark hS (sz_m hSh) (fun i hi => (hSh i hi).2.1) (fun _ => h2 mem hI') (fun i hi e1 => absurd (by rw [e1]; exact i3 i hi) q)
  · subst e1
    obtain ⟨z, hz1, z1, z2⟩ := (hSh i hi).2.2.1
    have es : mem (shC i) 0 = mem 117 i := (hSh i hi).1
    rw [es, z1] at h2 ⊢
    have o : ∀ a, a ≠ shC i + 1 → ∀ r, wrO mem (shC i + 1) (Int32.toNatClampNeg p) r a = mem a := by
      intro a ha r
      cases r with
      | none => rfl
      | some x => exact ab_w_ne _ _ _ ha
    have hsh : ∀ r, (wrO mem (shC i + 1) (Int32.toNatClampNeg p) r) 117 = mem 117 ∧ (wrO mem (shC i + 1) (Int32.toNatClampNeg p) r) 118 = mem 118 ∧ (wrO mem (shC i + 1) (Int32.toNatClampNeg p) r) 119 = mem 119 := fun r => ⟨o _ (by unfold shC; omega) r, o _ (by unfold shC; omega) r, o _ (by unfold shC; omega) r⟩
    obtain ⟨r1, r2, r3⟩ := hsh (mrk (mem 117 i) (0 ≤ p ∧ p ≤ nI z - 1) v).2
    refine m_mark hS (by rw [r2]; exact sz_m hSh) (by rw [r1]; exact fun i hi => (hSh i hi).2.1) (fun y => absurd (i3 i hi) y) (fun i' hi' e1 => ?_)
    have := ixe e1 (by omega) (by omega)
    subst this
    rw [r1, r2, z2]
    refine h2 _ ?_
    cases hr : (mrk (mem 117 i) (0 ≤ p ∧ p ≤ nI z - 1) v).2 with
    | none => exact hI'
    | some x =>
      obtain ⟨hp, hxx⟩ := mrk_some hr
      obtain ⟨j, hj, rfl⟩ := ix_of (by omega) hp
      rw [cl_nI (by omega)]
      show Inv sh rf (ab_w (ab_w mem (shC i + 1) j x) 119 (24 * i + j) x) nx
      refine Inv.sheets hS hI0' hx (fun a h1 h2 h3 h4 _ => by rw [ab_w_ne _ _ _ h4, ab_w_ne _ _ _ (by unfold shC; omega)]) fun y hy => ?_
      have e7 : (ab_w (ab_w mem (shC i + 1) j x) 119 (24 * i + j) x) 117 = mem 117 := by rw [ab_w_ne _ _ _ (by decide), ab_w_ne _ _ _ (by unfold shC; omega)]
      have e8 : (ab_w (ab_w mem (shC i + 1) j x) 119 (24 * i + j) x) 118 = mem 118 := by rw [ab_w_ne _ _ _ (by decide), ab_w_ne _ _ _ (by unfold shC; omega)]
      have e0 : (ab_w (ab_w mem (shC i + 1) j x) 119 (24 * i + j) x) (shC y) = mem (shC y) := by rw [ab_w_ne _ _ _ (by unfold shC; omega), ab_w_ne _ _ _ (by unfold shC; omega)]
      have e9 : ∀ k, k < 24 → (ab_w (ab_w mem (shC i + 1) j x) 119 (24 * i + j) x) 119 (24 * y + k) = if y = i ∧ k = j then x else mem 119 (24 * y + k) := by
        intro k hk
        by_cases c : y = i ∧ k = j
        · obtain ⟨rfl, rfl⟩ := c
          rw [if_pos ⟨rfl, rfl⟩, w_eq]
        · rw [if_neg c, w_ne _ _ (Or.inr (by omega)), ab_w_ne _ _ _ (by unfold shC; omega)]
      obtain ⟨s1, s2, s3, s4, s5⟩ := hSh y hy
      rw [e7, e8, e0]
      refine ⟨s1, s2, s3, fun k hk => ?_, fun k hk => ?_⟩
      · rw [e9 k hk, ab_w_ne _ _ _ (by unfold shC; omega)]
        by_cases c : y = i ∧ k = j
        · obtain ⟨rfl, rfl⟩ := c
          rw [if_pos ⟨rfl, rfl⟩, w_eq]
        · rw [if_neg c, w_ne _ _ (by unfold shC; omega)]; exact s4 k hk
      · show (ab_w (ab_w mem (shC i + 1) j x) 119 (24 * i + j) x) 119 (24 * y + k) = -1000000005 ∨ _
        rw [e9 k hk]
        by_cases c : y = i ∧ k = j
        · rw [if_pos c]
          show x = -1000000005 ∨ -99999 ≤ ((ab_w (ab_w mem (shC i + 1) j x) 119 (24 * i + j) x) 119 (24 * y + k)).toInt ∧ ((ab_w (ab_w mem (shC i + 1) j x) 119 (24 * i + j) x) 119 (24 * y + k)).toInt ≤ 99999
          rw [e9 k hk, if_pos c]
          exact hxx
        · rw [if_neg c]
          show mem 119 (24 * y + k) = -1000000005 ∨ -99999 ≤ ((ab_w (ab_w mem (shC i + 1) j x) 119 (24 * i + j) x) 119 (24 * y + k)).toInt ∧ ((ab_w (ab_w mem (shC i + 1) j x) 119 (24 * i + j) x) 119 (24 * y + k)).toInt ≤ 99999
          rw [e9 k hk, if_neg c]
          exact s5 k hk
end JS
