/-! BOTH: a text -/
section JX
variable {l : Launch} {G : ab_G} {ol : ab_Ol} {sh : ab_S} {rf : ab_R} {mem : ab_N} {nx : Nat}
theorem ky_one {tp : Row} {L v w : Nat} (h : KyP tp L v) (g : KyP tp L w) : v = w := by
  rcases Nat.lt_trichotomy v w with z | z | z
  · exact absurd h.2.2.1 (g.2.2.2 v z)
  · exact z
  · exact absurd g.2.2.1 (h.2.2.2 w z)
theorem wf_cg {r r' : Row} : ∀ n, (∀ k, k < n → r' k = r k) → tpC r' n = tpC r n ∧ (wfC r n → wfC r' n)
  | 0, _ => ⟨rfl, fun _ => trivial⟩
  | n + 1, h => by
    obtain ⟨a, b⟩ := wf_cg n (fun k hk => h k (by omega))
    refine ⟨by rw [tpC, tpC, a, h n (by omega)], fun q => ⟨b q.1, ?_⟩⟩
    rw [a, h n (by omega)]; exact q.2
theorem tw_loc {f g : Row} {t : Nat} (h1 : g (111 + 2 * t) = f (111 + 2 * t)) (h2 : ∀ j, j < 96 → g (139 + 96 * t + j) = f (139 + 96 * t + j)) (hx : TxW f t) : TxW g t := by
  obtain ⟨key, n, a, b, c, e1, e2, e3⟩ := hx
  obtain ⟨w1, w2⟩ := wf_cg (r := cdF f t) (r' := cdF g t) n (fun k hk => h2 k (by omega))
  exact ⟨key, n, a, b, h1.trans c, w2 e1, by rw [w1]; exact e2, fun hk j hj q => e3 hk j hj ((h2 j (by omega)).symm.trans q)⟩
theorem lk_cg {f g : Row} {k : Nat} : ∀ n, (∀ t, t < n → g (111 + 2 * t) = f (111 + 2 * t)) → lastK g k n = lastK f k n
  | 0, _ => rfl
  | n + 1, h => by
    rw [lastK, lastK, h n (by omega), lk_cg n (fun t ht => h t (by omega))]
theorem Rch.sL {tp : Row} {L key : Nat} {M M' : PM} (h : Rch tp L key M M') : M.s ≤ L → M'.s ≤ L :=
  Rch.ind (motive := fun A B => A.s ≤ L → B.s ≤ L) (fun _ g => g) (fun A A1 B a _ ih g => ih (by rw [(stp_s a).1]; exact nxt_le g)) h
theorem txt_inv {N D T w na : Nat} {c : List Int32} {mem2 : ab_N} (hS : St sh rf nx) (hn : nx ≤ 900) (h0 : Inv0 mem N D T) (hx : ∀ t, t < T → TxC sh rf mem nx (mem 102) t) (hT : T < 14) (hw : w < 3) (hlen : c.length ≤ 96) (hok : okL 0 c) (hdp : dpL 0 c = 1) (hne : w ≠ 0 → ∀ x ∈ c, x ≠ 10002)
    (F1 : ∀ a, a < nx → a ≠ 0 → a ≠ 4 → a ≠ 6 → a ≠ 63 → a ≠ 64 → a ≠ 101 → a ≠ 102 → a ≠ 112 → a ≠ 113 → a ≠ 114 → mem2 a = mem a) (F2 : ∀ k, k ≠ 7 → mem2 0 k = mem 0 k) (F3 : mem2 0 7 = 0) (F4 : ∀ k, k ≠ 8 → mem2 4 k = mem 4 k) (F5 : mem2 4 8 = nI (T + 1)) (F6 : ∀ k, k ≠ w → mem2 6 k = mem 6 k) (F7 : mem2 6 w = nI T) (F8 : ∀ k, k < c.length → mem2 nx k = enc (c.getD k 0)) (F9 : mem2 (nx + 1) 0 = nI w) (F10 : mem2 (nx + 1) 1 = nI na) (G1 : ∀ j, ¬ (10 ≤ j ∧ j ≤ 16) → j ≠ 20 → j ≠ 21 → j ≠ 23 → mem2 101 j = mem 101 j) (G2 : mem2 101 10 = 0) (G3 : mem2 102 = upd (txR (mem 102) T w na c.length c) 6 (nI (T + 1))) : Inv (shT sh nx c.length) (ab_wr (rfT rf nx) 2 T (some (nx + 1))) mem2 (nx + 2) := by
  have h126 := hS.1
  obtain ⟨⟨a1, a2, a3, a4, a5, a6, a7, a8⟩, ⟨b1, b2, b3⟩, ⟨L, h96, t1, t2, t3, t4⟩, hSh, hSl, hWa, hKs⟩ := h0
  have o : ∀ a, a < 126 → a ≠ 0 → a ≠ 4 → a ≠ 6 → a ≠ 63 → a ≠ 64 → a ≠ 101 → a ≠ 102 → a ≠ 112 → a ≠ 113 → a ≠ 114 → mem2 a = mem a := fun a ha => F1 a (by omega)
  have fk : ∀ k, k ≠ 6 → k ≠ 111 + 2 * T → k ≠ 111 + 2 * T + 1 → ¬ (139 + 96 * T ≤ k ∧ k < 139 + 96 * T + c.length) → mem2 102 k = mem 102 k := fun k k1 k2 k3 k4 => by rw [G3, pk_un k1]; unfold txR; rw [if_neg k2, if_neg k3, if_neg k4]
  have f6 : mem2 102 6 = nI (T + 1) := by rw [G3, pk_us]
  have fT : mem2 102 (111 + 2 * T) = nI (1000 * w + c.length) := by rw [G3, pk_un (by omega)]; unfold txR; rw [if_pos rfl]
  have fT1 : mem2 102 (111 + 2 * T + 1) = nI na := by rw [G3, pk_un (by omega)]; unfold txR; rw [if_neg (by omega), if_pos rfl]
  have fC : ∀ j, j < c.length → mem2 102 (139 + 96 * T + j) = c.getD j 0 := fun j hj => by rw [G3, pk_un (by omega)]; unfold txR; rw [if_neg (by omega), if_neg (by omega), if_pos (by omega), show 139 + 96 * T + j - (139 + 96 * T) = j by omega]
  have old : ∀ t, t < T → mem2 102 (111 + 2 * t) = mem 102 (111 + 2 * t) ∧ mem2 102 (111 + 2 * t + 1) = mem 102 (111 + 2 * t + 1) ∧ ∀ j, j < 96 → mem2 102 (139 + 96 * t + j) = mem 102 (139 + 96 * t + j) := fun t ht => ⟨fk _ (by omega) (by omega) (by omega) (by omega), fk _ (by omega) (by omega) (by omega) (by omega), fun j hj => fk _ (by omega) (by omega) (by omega) (by omega)⟩
  have lo : ∀ k, k < 111 → k ≠ 6 → mem2 102 k = mem 102 k := fun k k1 k2 => fk k k2 (by omega) (by omega) (by omega)
  obtain ⟨tl, tw⟩ := tx_of (f := mem2 102) (t := T) (key := w) (n := c.length) hw hlen fT
  have tWT : TxW (mem2 102) T := by
    obtain ⟨w1, w2⟩ := wf_row (r := cdF (mem2 102) T) c.length c (Nat.le_refl _) (fun k hk => fC k hk)
    rw [List.take_length] at w1 w2
    refine ⟨w, c.length, hw, hlen, fT, w2 hok, by rw [w1, hdp]; exact Nat.le_refl _, fun hk j hj q => ?_⟩
    have : c.getD j 0 = 10002 := (fC j hj).symm.trans q
    rw [List.getD_eq_getElem?_getD, List.getElem?_eq_getElem hj] at this
    exact hne hk _ (List.getElem_mem hj) this
  have cnt : Cnt (mem2 6) (mem2 102) (T + 1) := fun k hk => by
    rw [lastK, tw]
    by_cases e : w = k
    · subst e; rw [if_pos rfl]; exact F7
    · rw [if_neg (fun q => e (ixe q (by omega) (by omega))), lk_cg T (fun t ht => (old t ht).1), F6 k (fun q => e q.symm)]
      exact a7 k hk
  have rw4 : RW mem2 4 N (mem2 102) := by
    obtain ⟨⟨c1, c2, c3, c4, c5, c6, c7, c8⟩, d1, d2⟩ := a3
    refine ⟨⟨?_, ?_, ?_, ?_, ?_, ?_, ?_, ?_⟩, fun i k hi hk => ?_, fun i j hi hj => ?_⟩
    · rw [F4 7 (by decide), lo 0 (by decide) (by decide)]; exact c1
    · rw [F4 2 (by decide)]; exact c2
    · rw [lo 1 (by decide) (by decide)]; exact c3
    · rw [F4 6 (by decide), lo 2 (by decide) (by decide)]; exact c4
    · rw [F4 3 (by decide), lo 3 (by decide) (by decide)]; exact c5
    · rw [F4 4 (by decide), lo 4 (by decide) (by decide)]; exact c6
    · rw [F4 5 (by decide), lo 5 (by decide) (by decide)]; exact c7
    · rw [F5, f6]
    · rw [o _ (by omega) (by omega) (by omega) (by omega) (by omega) (by omega) (by omega) (by omega) (by omega) (by omega) (by omega), lo (tI i k) (by unfold tI; omega) (by unfold tI; omega)]; exact d1 i k hi hk
    · rw [o _ (by omega) (by omega) (by omega) (by omega) (by omega) (by omega) (by omega) (by omega) (by omega) (by omega) (by omega), lo (tI i (7 + j)) (by unfold tI; omega) (by unfold tI; omega)]; exact d2 i j hi hj
  have wf4 : Wf N D (mem2 102) := by
    obtain ⟨c1, c2, c3, c4, c5, c6⟩ := a4
    refine ⟨by rw [lo 1 (by decide) (by decide)]; exact c1, by rw [lo 3 (by decide) (by decide)]; exact c2, by rw [lo 4 (by decide) (by decide)]; exact c3, by rw [lo 5 (by decide) (by decide)]; exact c4, by rw [lo 2 (by decide) (by decide)]; exact c5, fun i hi => ?_⟩
    have := c6 i hi
    unfold TrW at *
    rw [lo (tI i 0) (by unfold tI; omega) (by unfold tI; omega), lo (tI i 1) (by unfold tI; omega) (by unfold tI; omega), lo (tI i 2) (by unfold tI; omega) (by unfold tI; omega), lo (tI i 4) (by unfold tI; omega) (by unfold tI; omega), lo (tI i 6) (by unfold tI; omega) (by unfold tI; omega)]
    exact this
  have q62 : mem2 62 = mem 62 := o 62 (by decide) (by decide) (by decide) (by decide) (by decide) (by decide) (by decide) (by decide) (by decide) (by decide) (by decide)
  have q109 : mem2 109 = mem 109 := o 109 (by decide) (by decide) (by decide) (by decide) (by decide) (by decide) (by decide) (by decide) (by decide) (by decide) (by decide)
  have q103 : mem2 103 = mem 103 := o 103 (by decide) (by decide) (by decide) (by decide) (by decide) (by decide) (by decide) (by decide) (by decide) (by decide) (by decide)
  have q3 : mem2 101 3 = mem 101 3 := G1 3 (by omega) (by decide) (by decide) (by decide)
  refine ⟨St.grow hS hn, N, D, T + 1, ⟨⟨a1, a2, rw4, wf4, ⟨f6, by omega, fun t ht => ?_⟩, by rw [F4 10 (by decide)]; exact a6, cnt, fun k hk => by rw [fk k (by omega) (by omega) (by omega) (by omega)]; exact a8 k hk⟩, ⟨by rw [F2 5 (by decide), q3]; exact b1, by rw [q103]; exact b2, ?_⟩, ⟨0, by decide, F3, G2, by rw [q62, q109]; exact t3, by rw [q62]; exact t4⟩, hSh.congr (fun a ha => o a (by omega) (by omega) (by omega) (by omega) (by omega) (by omega) (by omega) (by omega) (by omega) (by omega) (by omega)), hSl.congr (fun a ha => o a (by omega) (by omega) (by omega) (by omega) (by omega) (by omega) (by omega) (by omega) (by omega) (by omega) (by omega)), hWa.congr (F2 12 (by decide)) (G1 36 (by omega) (by decide) (by decide) (by decide)) (o 67 (by decide) (by decide) (by decide) (by decide) (by decide) (by decide) (by decide) (by decide) (by decide) (by decide) (by decide)) (o 125 (by decide) (by decide) (by decide) (by decide) (by decide) (by decide) (by decide) (by decide) (by decide) (by decide) (by decide)), hKs.congr (G1 4 (by omega) (by decide) (by decide) (by decide)) (o 110 (by decide) (by decide) (by decide) (by decide) (by decide) (by decide) (by decide) (by decide) (by decide) (by decide) (by decide)) (o 111 (by decide) (by decide) (by decide) (by decide) (by decide) (by decide) (by decide) (by decide) (by decide) (by decide) (by decide))⟩, fun t ht => ?_⟩
  · rcases Nat.lt_or_ge t T with z | z
    · exact tw_loc (old t z).1 (old t z).2.2 (a5.2.2 t z)
    · rw [show t = T by omega]; exact tWT
  · rcases b3 with b3 | ⟨b3, N', D', T', j1, j2, j3, j4, j5, j6, j7, j8⟩
    · exact Or.inl (q3.trans b3)
    · refine Or.inr ⟨q3.trans b3, N', D', T', by omega, j2, j3, ?_, by rw [q103]; exact j5, by rw [q103]; exact j6, ?_, ?_⟩
      · rw [q103]; exact j4.congr j2 fun a h1 h2 => o a (by omega) (by omega) (by omega) (by omega) (by omega) (by omega) (by omega) (by omega) (by omega) (by omega) (by omega)
      · rw [q103, o 25 (by decide) (by decide) (by decide) (by decide) (by decide) (by decide) (by decide) (by decide) (by decide) (by decide) (by decide)]; exact j7
      · rw [q103]
        exact fun t ht => ⟨(j8 t ht).1.trans (old t (by omega)).1.symm, (j8 t ht).2.1.trans (old t (by omega)).2.1.symm, fun j hj => ((j8 t ht).2.2 j hj).trans ((old t (by omega)).2.2 j hj).symm⟩
  · rcases Nat.lt_or_ge t T with z | z
    · obtain ⟨b, cb, g1, g2, g3, g4, g5, g6, g7, g8, g9, g10⟩ := (hx t z).congr (a5.2.2 t z) (old t z).1 (old t z).2.1 (old t z).2.2
      have lb := g3.1
      have lc := g6.1
      have mb : mem2 b = mem b := F1 b lb (by omega) (by omega) (by omega) (by omega) (by omega) (by omega) (by omega) (by omega) (by omega) (by omega)
      have mcb : mem2 cb = mem cb := F1 cb lc (by omega) (by omega) (by omega) (by omega) (by omega) (by omega) (by omega) (by omega) (by omega) (by omega)
      refine ⟨b, cb, ?_, g2, ⟨by omega, by rw [shT_o lb]; exact g3.2⟩, ?_, g5, ⟨by omega, by rw [shT_o lc]; exact g6.2⟩, by rw [shT_o lc]; exact g7, by rw [mcb]; exact g8, by rw [mb]; exact g9, by rw [mb]; exact g10⟩
      · unfold ab_wr va_up
        rw [if_pos rfl, if_neg (by omega), rfT_o (by omega)]
        exact g1
      · unfold ab_wr
        rw [if_neg (by omega), rfT_o lb]
        exact g4
    · have et : t = T := by omega
      subst et
      refine ⟨nx + 1, nx, ?_, by omega, ⟨by omega, by unfold shT ab_sw; rw [if_pos rfl]⟩, ?_, h126, ⟨by omega, by unfold shT ab_sw; rw [if_neg (by omega), if_pos rfl]⟩, ?_, fun k hk => ?_, ?_, ?_⟩
      · unfold ab_wr va_up
        rw [if_pos rfl, if_pos rfl]
      · unfold ab_wr
        rw [if_neg (by omega)]
        unfold rfT ab_wr va_up
        rw [if_pos rfl, if_pos rfl]
      · rw [tl]; unfold shT ab_sw; rw [if_neg (by omega), if_pos rfl]
      · rw [tl] at hk
        rw [F8 k hk]
        show enc _ = enc (mem2 102 (139 + 96 * t + k))
        rw [fC k hk]
      · rw [F9, tw]
      · rw [F10, fT1]
theorem J_text (hI : Inv sh rf mem nx) (hn : nx ≤ 400) : JT l G ol sh rf mem nx := by
  have hI' := hI
  obtain ⟨hS, N, D, T, hI0, hx⟩ := hI
  have hI0' := hI0
  obtain ⟨⟨hN, hD, hR, hW, hTx, h10, hC, hz⟩, hImg, hTap, hSh, hSl, hWa, hKs⟩ := hI0
  intro K h
  obtain ⟨L, h96, t1, t2, t3, t4⟩ := hTap
  have e48 : mem 4 8 = nI T := hR.1.2.2.2.2.2.2.2.trans hTx.1
  have fld : ∀ mem1 mem2, FT mem mem1 → FU mem1 mem2 → Inv sh rf mem2 nx := by
    intro mem1 mem2 F1 F2
    have o : ∀ a, a ≠ 0 → a ≠ 63 → a ≠ 64 → a ≠ 101 → a ≠ 112 → a ≠ 113 → a ≠ 114 → mem2 a = mem a := fun a a0 a1 a2 a3 a4 a5 a6 => (F2.1 a a3 a4 a5 a6).trans (F1.1 a a0 a1 a2)
    have o0 : ∀ k, k ≠ 7 → mem2 0 k = mem 0 k := fun k hk => by rw [F2.1 0 (by decide) (by decide) (by decide) (by decide)]; exact F1.2.1 k hk
    have o1 : ∀ j, ¬ (10 ≤ j ∧ j ≤ 16) → j ≠ 20 → j ≠ 21 → j ≠ 23 → mem2 101 j = mem 101 j := fun j a b c e => by rw [F2.2.1 j a b c e, F1.1 101 (by decide) (by decide) (by decide)]
    have e62 : mem2 62 = mem 62 := o 62 (by decide) (by decide) (by decide) (by decide) (by decide) (by decide) (by decide)
    have e109 : mem2 109 = mem 109 := o 109 (by decide) (by decide) (by decide) (by decide) (by decide) (by decide) (by decide)
    refine Inv.part hS hI0' hx (fun a a1 a2 a3 a4 a5 a6 a7 a8 a9 => o a a1 (fun e => a3 (by unfold SC; omega)) (fun e => a3 (by unfold SC; omega)) a2 (fun e => a3 (by unfold SC; omega)) (fun e => a3 (by unfold SC; omega)) (fun e => a3 (by unfold SC; omega))) (o0 5 (by decide)) (o1 3 (by omega) (by decide) (by decide) (by decide)) (o1 4 (by omega) (by decide) (by decide) (by decide)) ⟨0, by decide, ?_, F2.2.2, by rw [e62, e109]; exact t3, by rw [e62]; exact t4⟩ (hSh.congr fun a ha => o a (by omega) (by omega) (by omega) (by omega) (by omega) (by omega) (by omega)) (hSl.congr fun a ha => o a (by omega) (by omega) (by omega) (by omega) (by omega) (by omega) (by omega)) (hWa.congr (o0 12 (by decide)) (o1 36 (by omega) (by decide) (by decide) (by decide)) (o 67 (by decide) (by decide) (by decide) (by decide) (by decide) (by decide) (by decide)) (o 125 (by decide) (by decide) (by decide) (by decide) (by decide) (by decide) (by decide)))
    rw [F2.1 0 (by decide) (by decide) (by decide) (by decide)]; exact F1.2.2
  have T14 := hTx.2.1
  have ref : ∀ mem1 : ab_N, (∀ a, a ≠ 0 → a ≠ 4 → a ≠ 6 → a ≠ 63 → a ≠ 64 → a < 126 → mem1 a = mem a) → mem1 109 = mem 62 ∧ mem1 101 10 = nI L ∧ (∀ k, k < 11 → mem1 110 k = keyC k) ∧ (∀ k, k < 4 → mem1 111 k = keyI k) ∧ mem1 102 6 = nI T := fun mem1 F => ⟨by rw [F 109 (by decide) (by decide) (by decide) (by decide) (by decide) (by decide), t3], by rw [F 101 (by decide) (by decide) (by decide) (by decide) (by decide) (by decide)]; exact t2, by rw [F 110 (by decide) (by decide) (by decide) (by decide) (by decide) (by decide)]; exact hKs.2.1, by rw [F 111 (by decide) (by decide) (by decide) (by decide) (by decide) (by decide)]; exact hKs.2.2, by rw [F 102 (by decide) (by decide) (by decide) (by decide) (by decide) (by decide)]; exact hTx.1⟩
  have reF : ∀ mem1, FT mem mem1 → mem1 109 = mem 62 ∧ mem1 101 10 = nI L ∧ (∀ k, k < 11 → mem1 110 k = keyC k) ∧ (∀ k, k < 4 → mem1 111 k = keyI k) ∧ mem1 102 6 = nI T := fun mem1 F => ref mem1 (fun a a0 _ _ a1 a2 _ => F.1 a a0 a1 a2)
  refine x_text hS (by omega) h96 t1 e48 T14 t4 (fun hk mem1 F => h _ sh rf mem1 nx hS (by omega) fun K2 h2 => ?_) (fun w hk Mf hr hf mem1 F => h _ sh rf mem1 nx hS (by omega) fun K2 h2 => ?_) (fun w hk M hd eT mem1 F => h _ sh rf mem1 nx hS (by omega) fun K2 h2 => ?_) (fun w hk M hd lT hlen mem1 F1 F2 F3 F4 F5 F6 F7 F8 F9 F10 => h _ _ _ mem1 (nx + 2) (St.grow hS (by omega)) (by omega) fun K2 h2 => ?_)
  · obtain ⟨g1, g2, g3, g4, g5⟩ := reF mem1 F
    refine m_text hS h96 g2 (by rw [g1]; exact t4) g3 g4 g5 T14 (Or.inl ⟨by rw [g1]; exact hk, fun mem2 FU2 => ?_⟩)
    rw [g1]
    exact h2 mem2 (fld mem1 mem2 F FU2)
  · obtain ⟨g1, g2, g3, g4, g5⟩ := reF mem1 F
    refine m_text hS h96 g2 (by rw [g1]; exact t4) g3 g4 g5 T14 (Or.inr ⟨w, by rw [g1]; exact hk, fun v hv => by rw [g1] at hv; exact ky_one hv hk, Mf, by rw [g1]; exact hr, Or.inl ⟨by rw [g1]; exact hf, fun mem2 FU2 => h2 mem2 (fld mem1 mem2 F FU2)⟩⟩)
  · obtain ⟨g1, g2, g3, g4, g5⟩ := reF mem1 F
    have gt := nxt_gt (tp := mem 62) (L := L) (s := skb (mem 62) L 0) (by rw [hk.2.1]; decide)
    have hb := Bud.rch hd.1 (show Bud (M0 (mem 62) L) by
      unfold Bud M0
      show 0 + 0 < nxt (mem 62) L (skb (mem 62) L 0)
      omega)
    have hsL := hd.1.sL (show (M0 (mem 62) L).s ≤ L from nxt_le (skb_le (Nat.zero_le _)))
    unfold Bud at hb
    refine m_text hS h96 g2 (by rw [g1]; exact t4) g3 g4 g5 T14 (Or.inr ⟨w, by rw [g1]; exact hk, fun v hv => by rw [g1] at hv; exact ky_one hv hk, M, by rw [g1]; exact hd.1, Or.inr ⟨by rw [g1]; exact hd, by rw [List.length_append]; omega, fun _ mem2 FU2 => h2 mem2 (fld mem1 mem2 F FU2), fun z => by omega⟩⟩)
  · have h126 := hS.1
    obtain ⟨g1, g2, g3, g4, g5⟩ := ref mem1 (fun a a0 a4 a6 a63 a64 ha => F1 a (by omega) a0 a4 a6 a63 a64)
    have hS2 := St.grow (n := (M.cd ++ M.st).length) (T := T) (u := some (nx + 1)) hS (show nx ≤ 900 by omega)
    obtain ⟨w1, w2, w3⟩ := done_wf t4 hd
    have e102 : mem1 102 = mem 102 := F1 102 (by omega) (by decide) (by decide) (by decide) (by decide) (by decide)
    have e101 : mem1 101 = mem 101 := F1 101 (by omega) (by decide) (by decide) (by decide) (by decide) (by decide)
    refine m_text hS2 h96 g2 (by rw [g1]; exact t4) g3 g4 g5 T14 (Or.inr ⟨w, by rw [g1]; exact hk, fun v hv => by rw [g1] at hv; exact ky_one hv hk, M, by rw [g1]; exact hd.1, Or.inr ⟨by rw [g1]; exact hd, hlen, fun z => by omega, fun _ mR mem2 FU2 q1 q2 => h2 mem2 ?_⟩⟩)
    rw [e102] at q2
    have lo : ∀ a, a ≠ 101 → a ≠ 102 → a ≠ 112 → a ≠ 113 → a ≠ 114 → mem2 a = mem1 a := fun a b1 b2 b3 b4 b5 => (q1 a b2).trans (FU2.1 a b1 b3 b4 b5)
    exact txt_inv hS (by omega) hI0' hx lT hk.1 hlen w1 w2 w3 (fun a a1 a2 a3 a4 a5 a6 a7 a8 a9 a10 a11 => (lo a a7 a8 a9 a10 a11).trans (F1 a a1 a2 a3 a4 a5 a6)) (fun k hk => by rw [lo 0 (by decide) (by decide) (by decide) (by decide) (by decide)]; exact F2 k hk) (by rw [lo 0 (by decide) (by decide) (by decide) (by decide) (by decide)]; exact F3) (fun k hk => by rw [lo 4 (by decide) (by decide) (by decide) (by decide) (by decide)]; exact F4 k hk) (by rw [lo 4 (by decide) (by decide) (by decide) (by decide) (by decide)]; exact F5) (fun k hk => by rw [lo 6 (by decide) (by decide) (by decide) (by decide) (by decide)]; exact F6 k hk) (by rw [lo 6 (by decide) (by decide) (by decide) (by decide) (by decide)]; exact F7) (fun k hk => by rw [lo nx (by omega) (by omega) (by omega) (by omega) (by omega)]; exact F8 k hk) (by rw [lo (nx + 1) (by omega) (by omega) (by omega) (by omega) (by omega)]; exact F9) (by rw [lo (nx + 1) (by omega) (by omega) (by omega) (by omega) (by omega)]; exact F10) (fun j a b c e => by rw [q1 101 (by decide), FU2.2.1 j a b c e, e101]) (by rw [q1 101 (by decide)]; exact FU2.2.2) q2
end JX
