/-! BOTH: copy, lay -/
section JL
variable {l : Launch} {G : ab_G} {ol : ab_Ol} {sh : ab_S} {rf : ab_R} {mem : ab_N} {nx : Nat}
theorem J_copy (hI : Inv sh rf mem nx) {s p t a m : Int32} : JC l G ol mX_copy mM_copy [.int s, .int p, .int t, .int a, .int m] sh rf mem nx := by
  have hI' := hI
  obtain ⟨hS, N, D, T, hI0, hx⟩ := hI
  have hI0' := hI0
  obtain ⟨⟨hN, hD, hR, hW, hTx, h10, hC, hz⟩, hImg, hTap, hSh, hSl, hWa, hKs⟩ := hI0
  intro K h
  have i3 : ∀ i, i < 4 → (0 : Int32) ≤ nI i ∧ nI i ≤ 3 := fun i hi => ⟨nI_pos' (by omega), nI_le (b := 3) (by omega) (by decide)⟩
  refine x_copy hS (sz_x hSh) (fun q => h _ mem fun K2 h2 => ?_) (fun i j zi zj hi hj e1 e2 hzi hzj ezi ezj => ?_)
  · exact m_copy hS (sz_m hSh) (so_2 hSh) (fun _ => h2 mem hI') (fun i j zi zj hi hj e1 e2 _ _ _ _ => absurd ⟨by rw [e1]; exact i3 i hi, by rw [e2]; exact i3 j hj⟩ q)
  subst e1; subst e2
  have si : mem (shC i) 0 = mem 117 i := (hSh i hi).1
  have sj : mem (shC j) 0 = mem 117 j := (hSh j hj).1
  have qb : ¬ ¬ ((0 ≤ nI i ∧ nI i ≤ 3) ∧ (0 ≤ nI j ∧ nI j ≤ 3)) := fun y => y ⟨i3 i hi, i3 j hj⟩
  rw [si, sj]
  refine ⟨fun q => h _ mem fun K2 h2 => ?_, fun n1 n2 => ⟨fun q => h _ mem fun K2 h2 => ?_, fun q => ⟨fun q2 => h _ mem fun K2 h2 => ?_, fun p1 p2 => h _ _ fun K2 h2 => ?_⟩⟩⟩
  · refine m_copy hS (sz_m hSh) (so_2 hSh) (fun y => absurd y qb) (fun i' j' zi' zj' hi' hj' e1 e2 _ _ _ _ => ?_)
    have := ixe e1 (by omega) (by omega)
    subst this
    have := ixe e2 (by omega) (by omega)
    subst this
    exact ⟨fun _ => h2 mem hI', fun y1 y2 => q.elim (fun y => absurd y y1) (fun y => absurd y y2)⟩
  · refine m_copy hS (sz_m hSh) (so_2 hSh) (fun y => absurd y qb) (fun i' j' zi' zj' hi' hj' e1 e2 _ _ _ _ => ?_)
    have := ixe e1 (by omega) (by omega)
    subst this
    have := ixe e2 (by omega) (by omega)
    subst this
    exact ⟨fun y => y.elim (fun y => absurd y n1) (fun y => absurd y n2), fun _ _ => ⟨fun _ => h2 mem hI', fun y => absurd y q⟩⟩
  · refine m_copy hS (sz_m hSh) (so_2 hSh) (fun y => absurd y qb) (fun i' j' zi' zj' hi' hj' e1 e2 hzi' hzj' ezi' ezj' => ?_)
    have := ixe e1 (by omega) (by omega)
    subst this
    have := ixe e2 (by omega) (by omega)
    subst this
    have := sz_e hSh hi hzi hzi' ezi ezi'
    subst this
    have := sz_e hSh hj hzj hzj' ezj ezj'
    subst this
    refine ⟨fun y => y.elim (fun y => absurd y n1) (fun y => absurd y n2), fun _ _ => ⟨fun y => absurd q y, fun _ => ⟨fun _ => h2 mem hI', fun P A M eP eA eM b1 b2 => ?_⟩⟩⟩
    exact absurd ⟨⟨P, M, eP, eM, b1, by omega, by omega⟩, ⟨A, M, eA, eM, b2, by omega, by omega⟩⟩ q2
  · obtain ⟨P0, M0, rfl, rfl, b1, b2, b3⟩ := p1
    obtain ⟨A0, M1, rfl, eM, b4, b5, b6⟩ := p2
    have := ixe eM b3 b6
    subst this
    rw [cl_nI b2, cl_nI b5, cl_nI b3]
    generalize hm1 : ab_row mem (shC j + 1) (va_cpy (mem (shC i + 1)) (mem (shC j + 1)) P0 A0 M0) = mem1
    have o : ∀ q, q ≠ shC j + 1 → mem1 q = mem q := fun q hq => by rw [← hm1]; exact row_ne _ _ hq
    have oj : mem1 (shC j + 1) = va_cpy (mem (shC i + 1)) (mem (shC j + 1)) P0 A0 M0 := by rw [← hm1]; exact row_at _ _ _
    have o7 := o 117 (by unfold shC; omega)
    have o8 := o 118 (by unfold shC; omega)
    have o9 := o 119 (by unfold shC; omega)
    refine m_copy hS (by rw [o8]; exact sz_m hSh) (by rw [o7]; exact so_2 hSh) (fun y => absurd y qb) (fun i' j' zi' zj' hi' hj' e1 e2 hzi' hzj' ezi' ezj' => ?_)
    have := ixe e1 (by omega) (by omega)
    subst this
    have := ixe e2 (by omega) (by omega)
    subst this
    rw [o8] at ezi' ezj'
    have := sz_e hSh hi hzi hzi' ezi ezi'
    subst this
    have := sz_e hSh hj hzj hzj' ezj ezj'
    subst this
    rw [o7]
    refine ⟨fun y => y.elim (fun y => absurd y n1) (fun y => absurd y n2), fun _ _ => ⟨fun y => absurd q y, fun _ => ⟨fun y => absurd ⟨⟨P0, M0, rfl, rfl, b1, b2, b3⟩, ⟨A0, M0, rfl, rfl, b4, b5, b3⟩⟩ y, fun P A M eP eA eM c1 c2 mem2 F E => ?_⟩⟩⟩
    have := ixe eP (by omega) (by omega)
    subst this
    have := ixe eA (by omega) (by omega)
    subst this
    have := ixe eM (by omega) (by omega)
    subst this
    rw [o9] at E
    refine h2 mem2 (Inv.sheets hS hI0' hx (fun x h1 h2 h3 h4 h5 => by rw [F x h4 h5, o x (by unfold shC; omega)]) fun y hy => ?_)
    obtain ⟨s1, s2, s3, s4, s5⟩ := hSh y hy
    have e0 : mem2 (shC y) = mem (shC y) := by rw [F _ (by unfold shC; omega) (by unfold shC; omega), o _ (by unfold shC; omega)]
    rw [F 117 (by decide) (by decide), F 118 (by decide) (by decide), o7, o8, e0, F (shC y + 1) (by unfold shC; omega) (by unfold shC; omega)]
    have val : ∀ k, k < 24 → mem2 119 (24 * y + k) = if y = j ∧ A0 ≤ k ∧ k < A0 + M0 then mem 119 (24 * i + (P0 + (k - A0))) else mem 119 (24 * y + k) := by
      intro k hk
      rw [E]
      by_cases c : y = j ∧ A0 ≤ k ∧ k < A0 + M0
      · rw [if_pos c, if_pos (by omega)]
        congr 1; omega
      · rw [if_neg c, if_neg (by omega)]
    refine ⟨s1, s2, s3, fun k hk => ?_, fun k hk => ?_⟩
    · rw [val k hk]
      by_cases yj : y = j
      · subst yj
        rw [oj]
        by_cases c : A0 ≤ k ∧ k < A0 + M0
        · rw [pk_cpy_in c.1 c.2, if_pos ⟨rfl, c⟩]
          exact (hSh i hi).2.2.2.1 _ (by omega)
        · rw [pk_cpy_out (by omega), if_neg (fun z => c z.2)]
          exact s4 k hk
      · rw [o _ (by unfold shC; omega), if_neg (fun z => yj z.1)]
        exact s4 k hk
    · show mem2 119 (24 * y + k) = -1000000005 ∨ -99999 ≤ (mem2 119 (24 * y + k)).toInt ∧ (mem2 119 (24 * y + k)).toInt ≤ 99999
      rw [val k hk]
      by_cases c : y = j ∧ A0 ≤ k ∧ k < A0 + M0
      · rw [if_pos c]
        exact (hSh i hi).2.2.2.2 (P0 + (k - A0)) (by omega)
      · rw [if_neg c]
        exact s5 k hk
theorem Inv.slots {N D T : Nat} {mem' : ab_N} (hS : St sh rf nx) (h : Inv0 mem N D T) (hx : ∀ t, t < T → TxC sh rf mem nx (mem 102) t) (hF : ∀ a, ¬ (76 ≤ a ∧ a < 101) → ¬ (120 ≤ a ∧ a ≤ 123) → mem' a = mem a) (sl : ISl mem') : Inv sh rf mem' nx := by
  have h' := h
  obtain ⟨a1, b2, b3, b4, b5, b6, b7⟩ := h
  exact Inv.part hS h' hx (fun a a1 a2 a3 a4 a5 a6 a7 a8 a9 => hF a (by omega) (by omega)) (by rw [hF 0 (by omega) (by omega)]) (by rw [hF 101 (by omega) (by omega)]) (by rw [hF 101 (by omega) (by omega)]) (b3.congr (by rw [hF 0 (by omega) (by omega)]) (by rw [hF 101 (by omega) (by omega)]) (hF 62 (by omega) (by omega)) (hF 109 (by omega) (by omega))) (b4.congr fun a ha => hF a (by omega) (by omega)) sl (b6.congr (by rw [hF 0 (by omega) (by omega)]) (by rw [hF 101 (by omega) (by omega)]) (hF 67 (by omega) (by omega)) (hF 125 (by omega) (by omega)))
/-- slot i changes on both sides: first the class's cells of it, then the reference's -/
theorem ISl.lay {mem1 mem2 : ab_N} {i : Nat} {w A B : Int32} (h : ISl mem) (hi : i < 5) (F1 : ∀ a, ¬ (slC i ≤ a ∧ a < slC i + 5) → mem1 a = mem a) (L : LyR mem1 mem2 i w A B) (h3 : ∀ x, ¬ (24 * i ≤ x ∧ x < 24 * i + 24) → mem2 123 x = mem 123 x)
    (hw : w = 0 ∨ w = 1 ∨ w = 2 ∨ w = 3) (c0 : mem1 (slC i) 0 = w) (c1 : w = 1 → (∃ k, k < 6 ∧ mem1 (slC i + 1) 0 = nI k) ∧ A = mem1 (slC i + 1) 0 ∧ B = wth (mem1 (slC i + 1) 0) (mem1 (slC i + 1) 1) (mem1 (slC i + 1) 2)) (c2 : w = 2 → ∃ z, z ≤ 24 ∧ mem1 (slC i + 3) 1 = nI z ∧ A = nI z ∧ ∀ k, k < 24 → mem1 (slC i + 4) k = mem2 123 (24 * i + k)) (c3 : w = 3 → A = mem1 (slC i) 1) : ISl mem2 := by
  obtain ⟨l1, l2, l3, l4⟩ := L
  have f2 : ∀ y c, y < 5 → c < 5 → mem2 (slC y + c) = mem1 (slC y + c) := fun y c hy hc => l1 _ (by unfold slC; omega) (by unfold slC; omega) (by unfold slC; omega) (by unfold slC; omega)
  have g2 : ∀ y, y < 5 → mem2 (slC y) = mem1 (slC y) := fun y hy => f2 y 0 hy (by decide)
  intro y hy
  rw [g2 y hy, f2 y 1 hy (by decide), f2 y 3 hy (by decide), f2 y 4 hy (by decide), l2, l3, l4]
  by_cases e : y = i
  · subst e
    rw [pk_us, pk_us, pk_us]
    exact ⟨c0, hw, c1, c2, c3⟩
  · rw [pk_un e, pk_un e, pk_un e]
    have f1 : ∀ c, c < 5 → mem1 (slC y + c) = mem (slC y + c) := fun c hc => F1 _ (by unfold slC; omega)
    have f0 : mem1 (slC y) = mem (slC y) := f1 0 (by decide)
    have q : ∀ a, a = 120 ∨ a = 121 ∨ a = 122 → mem1 a = mem a := fun a ha => F1 a (by unfold slC; omega)
    rw [f0, f1 1 (by decide), f1 3 (by decide), f1 4 (by decide), q 120 (by omega), q 121 (by omega), q 122 (by omega)]
    obtain ⟨s1, s2, s3, s4, s5⟩ := h y hy
    refine ⟨s1, s2, s3, fun z => ?_, s5⟩
    obtain ⟨v, v1, v2, v3, v4⟩ := s4 z
    exact ⟨v, v1, v2, v3, fun k hk => by rw [h3 _ (by omega)]; exact v4 k hk⟩
theorem J_lay (hI : Inv sh rf mem nx) {s w k : Int32} : JC l G ol mX_lay mM_lay [.int s, .int w, .int k] sh rf mem nx := by
  have hI' := hI
  obtain ⟨hS, N, D, T, hI0, hx⟩ := hI
  have hI0' := hI0
  obtain ⟨⟨hN, hD, hR, hW, hTx, h10, hC, hz⟩, hImg, hTap, hSh, hSl, hWa, hKs⟩ := hI0
  intro K h
  have i4 : ∀ i, i < 5 → (0 : Int32) ≤ nI i ∧ nI i ≤ 4 := fun i hi => ⟨nI_pos' (by omega), nI_le (b := 4) (by omega) (by decide)⟩
  have i3 : ∀ i, i < 4 → (0 : Int32) ≤ nI i ∧ nI i ≤ 3 := fun i hi => ⟨nI_pos' (by omega), nI_le (b := 3) (by omega) (by decide)⟩
  have F0 : ∀ i (mem1 : ab_N), i < 5 → (∀ a, ¬ (slC i ≤ a ∧ a < slC i + 5) → mem1 a = mem a) → mem1 102 = mem 102 ∧ mem1 117 = mem 117 ∧ mem1 118 = mem 118 ∧ mem1 119 = mem 119 ∧ mem1 120 = mem 120 ∧ mem1 123 = mem 123 := fun i mem1 hi F => ⟨F _ (by unfold slC; omega), F _ (by unfold slC; omega), F _ (by unfold slC; omega), F _ (by unfold slC; omega), F _ (by unfold slC; omega), F _ (by unfold slC; omega)⟩
  have fr : ∀ i (mem1 mem2 : ab_N) (w A B : Int32), i < 5 → (∀ a, ¬ (slC i ≤ a ∧ a < slC i + 5) → mem1 a = mem a) → LyR mem1 mem2 i w A B → ∀ a, ¬ (76 ≤ a ∧ a < 101) → ¬ (120 ≤ a ∧ a ≤ 123) → mem2 a = mem a := fun i mem1 mem2 w A B hi F L a h1 h2 => by rw [L.1 a (by omega) (by omega) (by omega) (by omega), F a (by unfold slC; omega)]
  refine x_lay hS hN hR (fun q => h _ mem fun K2 h2 => ?_) (fun i j hi hj e1 e2 e3 em => h _ mem fun K2 h2 => ?_) (fun i hi e1 e2 => h _ _ fun K2 h2 => ?_) (fun i j hi hj e1 e2 e3 => h _ _ fun K2 h2 => ?_) (fun i j hi hj e1 e2 e3 em => h _ _ fun K2 h2 => ?_) (fun i hi e1 e2 => h _ _ fun K2 h2 => ?_)
  · refine m_lay hS hN rfl hW.1 (so_2 hSh) (fun _ => h2 mem hI') (fun i j hi hj e1 e2 e3 _ => absurd ⟨by rw [e1]; exact i4 i hi, by rw [e2]; decide, fun y => absurd (e2.symm.trans y) (by decide), fun _ => by rw [e3]; exact i3 j hj⟩ q) (fun i hi e1 e2 => absurd ⟨by rw [e1]; exact i4 i hi, ?_, ?_, ?_⟩ q) (fun i j hi hj e1 e2 e3 => absurd ⟨by rw [e1]; exact i4 i hi, by rw [e2]; decide, fun _ => by rw [e3]; exact ix_in (by omega) hj, fun y => absurd (e2.symm.trans y) (by decide)⟩ q) (fun i j hi hj e1 e2 e3 _ => absurd ⟨by rw [e1]; exact i4 i hi, by rw [e2]; decide, fun y => absurd (e2.symm.trans y) (by decide), fun _ => by rw [e3]; exact i3 j hj⟩ q)
    · rcases e2 with y | y <;> rw [y] <;> decide
    · intro z; rcases e2 with y | y <;> exact absurd (y.symm.trans z) (by decide)
    · intro z; rcases e2 with y | y <;> exact absurd (y.symm.trans z) (by decide)
  · subst e1; subst e2; subst e3
    refine m_lay hS hN rfl hW.1 (so_2 hSh) (fun y => absurd ⟨i4 i hi, by decide, fun y => absurd y (by decide), fun _ => i3 j hj⟩ y) (fun i' j' hi' hj' e1 _ e3 _ => h2 mem hI') (fun i' hi' e1 e2 => e2.elim (fun y => absurd y (by decide)) (fun y => absurd y (by decide))) (fun i' j' hi' hj' e1 e2 => absurd e2 (by decide)) (fun i' j' hi' hj' e1 _ e3 y => ?_)
    have := ixe e3 (by omega) (by omega)
    subst this
    exact absurd ((hSh j hj).1.symm.trans em) y
  · subst e1; subst e2
    have F : ∀ a, ¬ (slC i ≤ a ∧ a < slC i + 5) → ab_w mem (slC i) 0 0 a = mem a := fun a ha => ab_w_ne _ _ _ (by omega)
    have c0 : ab_w mem (slC i) 0 0 (slC i) 0 = 0 := w_eq _ _ _ _
    rw [(hSl i hi).1] at h2
    generalize ab_w mem (slC i) 0 0 = mem1 at *
    obtain ⟨g1, g2, g3, g4, g5, g6⟩ := F0 i mem1 hi F
    refine m_lay (f := mem 102) hS hN g1 hW.1 (by rw [g2]; exact so_2 hSh) (fun y => absurd ⟨i4 i hi, by decide, fun y => absurd y (by decide), fun y => absurd y (by decide)⟩ y) (fun i' j' hi' hj' e1 e2 => absurd e2 (by decide)) (fun i' hi' e1 e2 mem2 L L3 => ?_) (fun i' j' hi' hj' e1 e2 => absurd e2 (by decide)) (fun i' j' hi' hj' e1 e2 => absurd e2 (by decide))
    have := ixe e1 (by omega) (by omega)
    subst this
    rw [g5]
    exact h2 mem2 (Inv.slots hS hI0' hx (fr i mem1 mem2 _ _ _ hi F L) (hSl.lay hi F L (fun x _ => by rw [L3, g6]) (Or.inl rfl) c0 (fun y => absurd y (by decide)) (fun y => absurd y (by decide)) (fun y => absurd y (by decide))))
  · subst e1; subst e2; subst e3
    have hj8 : j < 8 := by omega
    have F : ∀ a, ¬ (slC i ≤ a ∧ a < slC i + 5) → becT (ab_w mem (slC i) 0 1) (slC i + 1) (4 + 3 + 2 * j) a = mem a := fun a ha => funext fun x => by
      rw [becT_out (by omega) (by omega)]; exact w_ne _ _ (Or.inl (by omega))
    have c0 : becT (ab_w mem (slC i) 0 1) (slC i + 1) (4 + 3 + 2 * j) (slC i) 0 = 1 := by rw [becT_out (by omega) (by omega)]; exact w_eq _ _ _ _
    have ck : ∀ x, x < 7 → becT (ab_w mem (slC i) 0 1) (slC i + 1) (4 + 3 + 2 * j) (slC i + 1) x = mem 102 (tI j x) := by
      intro x hx7
      unfold becT
      rw [if_pos ⟨rfl, hx7⟩, ab_w_ne _ _ _ (by unfold slC; omega)]
      exact hR.2.1 j x hj hx7
    rw [(hSl i hi).1] at h2
    generalize becT (ab_w mem (slC i) 0 1) (slC i + 1) (4 + 3 + 2 * j) = mem1 at *
    obtain ⟨g1, g2, g3, g4, g5, g6⟩ := F0 i mem1 hi F
    refine m_lay (f := mem 102) hS hN g1 hW.1 (by rw [g2]; exact so_2 hSh) (fun y => absurd ⟨i4 i hi, by decide, fun _ => ix_in (by omega) hj, fun y => absurd y (by decide)⟩ y) (fun i' j' hi' hj' e1 e2 => absurd e2 (by decide)) (fun i' hi' e1 e2 => e2.elim (fun y => absurd y (by decide)) (fun y => absurd y (by decide))) (fun i' j' hi' hj' e1 _ e3 mem2 L L3 => ?_) (fun i' j' hi' hj' e1 e2 => absurd e2 (by decide))
    have := ixe e1 (by omega) (by omega)
    subst this
    have := ixe e3 (by omega) (by omega)
    subst this
    rw [g5]
    obtain ⟨kk, hkk, ekk⟩ := (hW.2.2.2.2.2 j hj).1
    refine h2 mem2 (Inv.slots hS hI0' hx (fr i mem1 mem2 _ _ _ hi F L) (hSl.lay hi F L (fun x _ => by rw [L3, g6]) (Or.inr (Or.inl rfl)) c0 (fun _ => ⟨⟨kk, hkk, ?_⟩, ?_, ?_⟩) (fun y => absurd y (by decide)) (fun y => absurd y (by decide))))
    · rw [ck 0 (by decide)]; exact ekk
    · rw [ck 0 (by decide)]
    · rw [ck 0 (by decide), ck 1 (by decide), ck 2 (by decide)]
  · subst e1; subst e2; subst e3
    have F : ∀ a, ¬ (slC i ≤ a ∧ a < slC i + 5) → rbec (ab_w mem (slC i) 0 2) (slC i + 3) (shC j) a = mem a := fun a ha => funext fun x => by
      unfold rbec
      rw [if_neg (fun y => absurd y.1 (by omega)), if_neg (fun y => absurd y.1 (by omega))]; exact w_ne _ _ (Or.inl (by omega))
    have c0 : rbec (ab_w mem (slC i) 0 2) (slC i + 3) (shC j) (slC i) 0 = 2 := by
      unfold rbec
      rw [if_neg (fun y => absurd y.1 (by omega)), if_neg (fun y => absurd y.1 (by omega))]; exact w_eq _ _ _ _
    have c1 : rbec (ab_w mem (slC i) 0 2) (slC i + 3) (shC j) (slC i + 3) 1 = mem (shC j) 1 := by
      unfold rbec
      rw [if_pos ⟨rfl, by decide⟩, ab_w_ne _ _ _ (by unfold slC shC; omega)]
    have c4 : ∀ x, x < 24 → rbec (ab_w mem (slC i) 0 2) (slC i + 3) (shC j) (slC i + 4) x = mem (shC j + 1) x := by
      intro x hx7
      unfold rbec
      rw [if_neg (fun y => absurd y.1 (by omega)), if_pos ⟨rfl, hx7⟩, ab_w_ne _ _ _ (by unfold slC shC; omega)]
    rw [(hSl i hi).1] at h2
    generalize rbec (ab_w mem (slC i) 0 2) (slC i + 3) (shC j) = mem1 at *
    obtain ⟨g1, g2, g3, g4, g5, g6⟩ := F0 i mem1 hi F
    refine m_lay (f := mem 102) hS hN g1 hW.1 (by rw [g2]; exact so_2 hSh) (fun y => absurd ⟨i4 i hi, by decide, fun y => absurd y (by decide), fun _ => i3 j hj⟩ y) (fun i' j' hi' hj' e1 _ e3 y => ?_) (fun i' hi' e1 e2 => e2.elim (fun y => absurd y (by decide)) (fun y => absurd y (by decide))) (fun i' j' hi' hj' e1 e2 => absurd e2 (by decide)) (fun i' j' hi' hj' e1 _ e3 _ mem2 L L3 => ?_)
    · have := ixe e3 (by omega) (by omega)
      subst this
      rw [g2] at y
      exact absurd ((hSh j hj).1.trans y) em
    · have := ixe e1 (by omega) (by omega)
      subst this
      have := ixe e3 (by omega) (by omega)
      subst this
      rw [g3] at L
      rw [g5]
      obtain ⟨z, z1, z2, z3⟩ := (hSh j hj).2.2.1
      refine h2 mem2 (Inv.slots hS hI0' hx (fr i mem1 mem2 _ _ _ hi F L) (hSl.lay hi F L (fun x hxx => by rw [L3, if_neg hxx, g6]) (Or.inr (Or.inr (Or.inl rfl))) c0 (fun y => absurd y (by decide)) (fun _ => ⟨z, z1, c1.trans z2, z3, fun x hxx => ?_⟩) (fun y => absurd y (by decide))))
      rw [c4 x hxx, L3, if_pos (by omega), g4, (hSh j hj).2.2.2.1 x hxx]
      congr 1; omega
  · subst e1; subst e2
    have F : ∀ a, ¬ (slC i ≤ a ∧ a < slC i + 5) → ab_w (ab_w mem (slC i) 0 3) (slC i) 1 k a = mem a := fun a ha => by rw [ab_w_ne _ _ _ (by omega), ab_w_ne _ _ _ (by omega)]
    have c0 : ab_w (ab_w mem (slC i) 0 3) (slC i) 1 k (slC i) 0 = 3 := by rw [w_ne _ _ (Or.inr (by decide))]; exact w_eq _ _ _ _
    have c1 : ab_w (ab_w mem (slC i) 0 3) (slC i) 1 k (slC i) 1 = k := w_eq _ _ _ _
    rw [(hSl i hi).1] at h2
    generalize ab_w (ab_w mem (slC i) 0 3) (slC i) 1 k = mem1 at *
    obtain ⟨g1, g2, g3, g4, g5, g6⟩ := F0 i mem1 hi F
    refine m_lay (f := mem 102) hS hN g1 hW.1 (by rw [g2]; exact so_2 hSh) (fun y => absurd ⟨i4 i hi, by decide, fun y => absurd y (by decide), fun y => absurd y (by decide)⟩ y) (fun i' j' hi' hj' e1 e2 => absurd e2 (by decide)) (fun i' hi' e1 e2 mem2 L L3 => ?_) (fun i' j' hi' hj' e1 e2 => absurd e2 (by decide)) (fun i' j' hi' hj' e1 e2 => absurd e2 (by decide))
    have := ixe e1 (by omega) (by omega)
    subst this
    rw [g5]
    exact h2 mem2 (Inv.slots hS hI0' hx (fr i mem1 mem2 _ _ _ hi F L) (hSl.lay hi F L (fun x _ => by rw [L3, g6]) (Or.inr (Or.inr (Or.inr rfl))) c0 (fun y => absurd y (by decide)) (fun y => absurd y (by decide)) (fun _ => c1.symm)))
end JL
