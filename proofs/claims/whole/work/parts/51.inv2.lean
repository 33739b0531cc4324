/-! BOTH: what holds between the class and the reference -/
def Cnt (c : Nat → Int32) (f : Row) (T : Nat) : Prop := ∀ k, k < 3 → c k = match lastK f k T with | none => -1000000005 | some t => nI t
def TxC (sh : ab_S) (rf : ab_R) (mem : ab_N) (nx : Nat) (f : Row) (t : Nat) : Prop := ∃ b cb, rf 2 t = some b ∧ 126 ≤ b ∧ ab_is sh nx b 5 ∧ rf b 2 = some cb ∧ 126 ≤ cb ∧ ab_is sh nx cb 10 ∧ (sh cb).2 = lnF f t ∧ (∀ k, k < lnF f t → mem cb k = enc (cdF f t k)) ∧ mem b 0 = f (111 + 2 * t) / 1000 ∧ mem b 1 = f (111 + 2 * t + 1)
def Agr (g f : Row) (T : Nat) : Prop := ∀ t, t < T → g (111 + 2 * t) = f (111 + 2 * t) ∧ g (111 + 2 * t + 1) = f (111 + 2 * t + 1) ∧ ∀ j, j < 96 → g (139 + 96 * t + j) = f (139 + 96 * t + j)
def INow (mem : ab_N) (N D T : Nat) : Prop := N ≤ 8 ∧ D ≤ 9999 ∧ RW mem 4 N (mem 102) ∧ Wf N D (mem 102) ∧ TxT (mem 102) T ∧ mem 4 10 = absV 8 ∧ Cnt (mem 6) (mem 102) T ∧ ∀ k, 1483 ≤ k → mem 102 k = 0
def IImg (mem : ab_N) (T : Nat) : Prop := mem 0 5 = mem 101 3 ∧ (∀ k, 1483 ≤ k → mem 103 k = 0) ∧ (mem 101 3 = 0 ∨ (mem 101 3 = 1 ∧ ∃ N' D' T', T' ≤ T ∧ N' ≤ 8 ∧ D' ≤ 9999 ∧ RW mem 23 N' (mem 103) ∧ Wf N' D' (mem 103) ∧ TxT (mem 103) T' ∧ Cnt (mem 25) (mem 103) T' ∧ Agr (mem 103) (mem 102) T'))
def ITap (mem : ab_N) : Prop := ∃ L, L ≤ 96 ∧ mem 0 7 = nI L ∧ mem 101 10 = nI L ∧ mem 62 = mem 109 ∧ ∀ j, ∃ q, q < 256 ∧ mem 62 j = nI q
def ISh (mem : ab_N) : Prop := ∀ i, i < 4 → mem (shC i) 0 = mem 117 i ∧ (mem 117 i = -1 ∨ mem 117 i = 0 ∨ mem 117 i = 1) ∧ (∃ z, z ≤ 24 ∧ mem (shC i) 1 = nI z ∧ mem 118 i = nI z) ∧ (∀ k, k < 24 → mem (shC i + 1) k = mem 119 (24 * i + k)) ∧ PB (fun k => mem 119 (24 * i + k)) 24
def ISl (mem : ab_N) : Prop := ∀ i, i < 5 → mem (slC i) 0 = mem 120 i ∧ (mem 120 i = 0 ∨ mem 120 i = 1 ∨ mem 120 i = 2 ∨ mem 120 i = 3) ∧ (mem 120 i = 1 → (∃ k, k < 6 ∧ mem (slC i + 1) 0 = nI k) ∧ mem 121 i = mem (slC i + 1) 0 ∧ mem 122 i = wth (mem (slC i + 1) 0) (mem (slC i + 1) 1) (mem (slC i + 1) 2)) ∧ (mem 120 i = 2 → ∃ z, z ≤ 24 ∧ mem (slC i + 3) 1 = nI z ∧ mem 121 i = nI z ∧ ∀ k, k < 24 → mem (slC i + 4) k = mem 123 (24 * i + k)) ∧ (mem 120 i = 3 → mem 121 i = mem (slC i) 1)
def IWa (mem : ab_N) : Prop := ∃ W, W ≤ 60 ∧ mem 0 12 = nI W ∧ mem 101 36 = nI W ∧ mem 67 = mem 125
def keyC (k : Nat) : Int32 := [99, 111, 115, 116, 102, 101, 101, 102, 105, 110, 101].getD k 0
def keyI (k : Nat) : Int32 := [0, 4, 7, 11].getD k 0
def IKs (mem : ab_N) : Prop := mem 101 4 = homV 8 ∧ (∀ k, k < 11 → mem 110 k = keyC k) ∧ ∀ k, k < 4 → mem 111 k = keyI k
/-- all but the texts' cells -/
def Inv0 (mem : ab_N) (N D T : Nat) : Prop := INow mem N D T ∧ IImg mem T ∧ ITap mem ∧ ISh mem ∧ ISl mem ∧ IWa mem ∧ IKs mem
def Inv (sh : ab_S) (rf : ab_R) (mem : ab_N) (nx : Nat) : Prop := St sh rf nx ∧ ∃ N D T, Inv0 mem N D T ∧ ∀ t, t < T → TxC sh rf mem nx (mem 102) t
/-- what is only scratch -/
def SC (a : Nat) : Prop := a = 3 ∨ (42 ≤ a ∧ a < 62) ∨ a = 63 ∨ a = 64 ∨ (104 ≤ a ∧ a ≤ 108) ∨ (112 ≤ a ∧ a ≤ 116) ∨ a = 124
def RO (mem mem' : ab_N) : Prop := ∀ a, ¬ SC a → mem' a = mem a
theorem RO.rfl {mem : ab_N} : RO mem mem := fun _ _ => Eq.refl _
theorem RO.trans {m1 m2 m3 : ab_N} (h1 : RO m1 m2) (h2 : RO m2 m3) : RO m1 m3 := fun a h => (h2 a h).trans (h1 a h)
theorem RO.T {m1 m2 : ab_N} (h : FrT m1 m2) : RO m1 m2 := fun a ha => h a (by unfold SC at ha; omega) (by unfold SC at ha; omega)
theorem RO.s3 {m1 m2 : ab_N} (h : ∀ q, q ≠ 3 → m2 q = m1 q) : RO m1 m2 := fun a ha => h a (by unfold SC at ha; omega)
theorem RO.S {m1 m2 : ab_N} (h : FS m1 m2) : RO m1 m2 := fun a ha => by
  by_cases e : a = 102
  · rw [e]; exact h.2
  · exact h.1 a e (by unfold SC at ha; omega) (by unfold SC at ha; omega) (by unfold SC at ha; omega)
theorem TxC.mono {sh : ab_S} {rf : ab_R} {mem mem' : ab_N} {nx t : Nat} {f : Row} (h : TxC sh rf mem nx f t) (hF : ∀ a, 126 ≤ a → mem' a = mem a) : TxC sh rf mem' nx f t := by
  obtain ⟨b, cb, h1, h2, h3, h4, h5, h6, h7, h8, h9, h10⟩ := h
  exact ⟨b, cb, h1, h2, h3, h4, h5, h6, h7, fun k hk => by rw [hF cb h5]; exact h8 k hk, by rw [hF b h2]; exact h9, by rw [hF b h2]; exact h10⟩
theorem TxC.congr {sh : ab_S} {rf : ab_R} {mem : ab_N} {nx t : Nat} {f g : Row} (h : TxC sh rf mem nx f t) (hx : TxW f t) (e1 : g (111 + 2 * t) = f (111 + 2 * t)) (e2 : g (111 + 2 * t + 1) = f (111 + 2 * t + 1)) (e3 : ∀ j, j < 96 → g (139 + 96 * t + j) = f (139 + 96 * t + j)) : TxC sh rf mem nx g t := by
  obtain ⟨b, cb, h1, h2, h3, h4, h5, h6, h7, h8, h9, h10⟩ := h
  obtain ⟨key, n, k1, k2, k3, _⟩ := hx
  have el : lnF g t = lnF f t := by unfold lnF; rw [e1]
  have ef := (tx_of k1 k2 k3).1
  exact ⟨b, cb, h1, h2, h3, h4, h5, h6, by rw [el]; exact h7, fun k hk => by rw [el, ef] at hk; rw [h8 k (by omega)]; unfold cdF; rw [e3 k (by omega)], by rw [e1]; exact h9, by rw [e2]; exact h10⟩
theorem RW.congr {mem mem' : ab_N} {w N : Nat} {f : Row} (h : RW mem w N f) (hN : N ≤ 8) (hF : ∀ a, w ≤ a → a < w + 19 → mem' a = mem a) : RW mem' w N f := h.own (fun k => by rw [hF w (by omega) (by omega)]) (fun i k hi _ => by rw [hF _ (by omega) (by omega)]) (fun i j hi _ => by rw [hF _ (by omega) (by omega)])
theorem INow.congr {mem mem' : ab_N} {N D T : Nat} (h : INow mem N D T) (hF : ∀ a, 4 ≤ a → a < 23 → mem' a = mem a) (h2 : mem' 102 = mem 102) : INow mem' N D T := by
  obtain ⟨a1, a2, a3, a4, a5, a6, a7, a8⟩ := h
  unfold INow
  rw [h2, hF 4 (by omega) (by omega), hF 6 (by omega) (by omega)]
  exact ⟨a1, a2, a3.congr a1 fun a h1 h2 => hF a h1 (by omega), a4, a5, a6, a7, a8⟩
theorem IImg.congr {mem mem' : ab_N} {T : Nat} (h : IImg mem T) (h0 : mem' 0 5 = mem 0 5) (h1 : mem' 101 3 = mem 101 3) (hF : ∀ a, 23 ≤ a → a < 42 → mem' a = mem a) (h3 : mem' 103 = mem 103) (h2 : ∀ k, 111 ≤ k → mem' 102 k = mem 102 k) : IImg mem' T := by
  obtain ⟨a1, a2, a3⟩ := h
  unfold IImg
  rw [h0, h1, h3, hF 25 (by omega) (by omega)]
  refine ⟨a1, a2, ?_⟩
  rcases a3 with a3 | ⟨a3, N', D', T', b1, b2, b3, b4, b5, b6, b7, b8⟩
  · exact Or.inl a3
  · exact Or.inr ⟨a3, N', D', T', b1, b2, b3, b4.congr b2 fun a h1 h2 => hF a h1 (by omega), b5, b6, b7, fun t ht => by
      obtain ⟨c1, c2, c3⟩ := b8 t ht
      exact ⟨c1.trans (h2 _ (by omega)).symm, c2.trans (h2 _ (by omega)).symm, fun j hj => (c3 j hj).trans (h2 _ (by omega)).symm⟩⟩
theorem ITap.congr {mem mem' : ab_N} (h : ITap mem) (h0 : mem' 0 7 = mem 0 7) (h1 : mem' 101 10 = mem 101 10) (h2 : mem' 62 = mem 62) (h3 : mem' 109 = mem 109) : ITap mem' := by
  unfold ITap at *
  rw [h0, h1, h2, h3]; exact h
theorem ISh.congr {mem mem' : ab_N} (h : ISh mem) (hF : ∀ a, (68 ≤ a ∧ a < 76) ∨ a = 117 ∨ a = 118 ∨ a = 119 → mem' a = mem a) : ISh mem' := by
  intro i hi
  have := h i hi
  rw [hF (shC i) (by unfold shC; omega), hF (shC i + 1) (by unfold shC; omega), hF 117 (by omega), hF 118 (by omega), hF 119 (by omega)]
  exact this
theorem ISl.congr {mem mem' : ab_N} (h : ISl mem) (hF : ∀ a, (76 ≤ a ∧ a < 101) ∨ (120 ≤ a ∧ a ≤ 123) → mem' a = mem a) : ISl mem' := by
  intro i hi
  have := h i hi
  rw [hF (slC i) (by unfold slC; omega), hF (slC i + 1) (by unfold slC; omega), hF (slC i + 3) (by unfold slC; omega), hF (slC i + 4) (by unfold slC; omega), hF 120 (by omega), hF 121 (by omega), hF 122 (by omega), hF 123 (by omega)]
  exact this
theorem IWa.congr {mem mem' : ab_N} (h : IWa mem) (h0 : mem' 0 12 = mem 0 12) (h1 : mem' 101 36 = mem 101 36) (h2 : mem' 67 = mem 67) (h3 : mem' 125 = mem 125) : IWa mem' := by
  unfold IWa at *
  rw [h0, h1, h2, h3]; exact h
theorem IKs.congr {mem mem' : ab_N} (h : IKs mem) (h0 : mem' 101 4 = mem 101 4) (h2 : mem' 110 = mem 110) (h3 : mem' 111 = mem 111) : IKs mem' := by
  unfold IKs at *
  rw [h0, h2, h3]; exact h
theorem Inv0.ro {mem mem' : ab_N} {N D T : Nat} (h : Inv0 mem N D T) (hF : RO mem mem') : Inv0 mem' N D T := by
  obtain ⟨a1, a2, a3, a4, a5, a6, a7⟩ := h
  have f : ∀ a, (a < 42 ∧ a ≠ 3) ∨ a = 62 ∨ (65 ≤ a ∧ a < 104) ∨ (109 ≤ a ∧ a < 112) ∨ (117 ≤ a ∧ a ≠ 124) → mem' a = mem a := fun a ha => hF a (by unfold SC; omega)
  refine ⟨a1.congr (fun a h1 h2 => f a (by omega)) (f _ (by omega)), a2.congr (by rw [f 0 (by omega)]) (by rw [f 101 (by omega)]) (fun a h1 h2 => f a (by omega)) (f _ (by omega)) (fun k _ => by rw [f 102 (by omega)]), a3.congr (by rw [f 0 (by omega)]) (by rw [f 101 (by omega)]) (f _ (by omega)) (f _ (by omega)), a4.congr (fun a ha => f a (by omega)), a5.congr (fun a ha => f a (by omega)), a6.congr (by rw [f 0 (by omega)]) (by rw [f 101 (by omega)]) (f _ (by omega)) (f _ (by omega)), a7.congr (by rw [f 101 (by omega)]) (f _ (by omega)) (f _ (by omega))⟩
theorem Inv.ro {sh : ab_S} {rf : ab_R} {mem mem' : ab_N} {nx : Nat} (h : Inv sh rf mem nx) (hF : RO mem mem') : Inv sh rf mem' nx := by
  obtain ⟨hS, N, D, T, h0, hx⟩ := h
  refine ⟨hS, N, D, T, h0.ro hF, fun t ht => ?_⟩
  rw [hF 102 (by unfold SC; omega)]
  exact (hx t ht).mono fun a ha => hF a (by unfold SC; omega)
/-- now changes, the texts don't -/
theorem Inv.now {sh : ab_S} {rf : ab_R} {mem mem' : ab_N} {nx N D T N' D' : Nat} (hS : St sh rf nx) (h : Inv0 mem N D T) (hx : ∀ t, t < T → TxC sh rf mem nx (mem 102) t) (hF : ∀ a, ¬ SC a → (a < 4 ∨ 23 ≤ a) → a ≠ 102 → mem' a = mem a) (h6 : mem' 6 = mem 6) (h4 : mem' 4 10 = mem 4 10) (hN : N' ≤ 8) (hD : D' ≤ 9999) (hR : RW mem' 4 N' (mem' 102)) (hW : Wf N' D' (mem' 102)) (hk6 : mem' 102 6 = mem 102 6) (hk : ∀ k, 111 ≤ k → mem' 102 k = mem 102 k) : Inv sh rf mem' nx := by
  obtain ⟨⟨a1, a2, a3, a4, a5, a6, a7, a8⟩, b2, b3, b4, b5, b6, b7⟩ := h
  have f : ∀ a, (a < 42 ∧ a ≠ 3 ∧ (a < 4 ∨ 23 ≤ a)) ∨ a = 62 ∨ (65 ≤ a ∧ a < 104 ∧ a ≠ 102) ∨ (109 ≤ a ∧ a < 112) ∨ (117 ≤ a ∧ a ≠ 124) → mem' a = mem a := fun a ha => hF a (by unfold SC; omega) (by omega) (by omega)
  refine ⟨hS, N', D', T, ⟨⟨hN, hD, hR, hW, TxT_congr hk6 hk a5, h4.trans a6, ?_, fun k q => (hk k (by omega)).trans (a8 k q)⟩, b2.congr (by rw [f 0 (by omega)]) (by rw [f 101 (by omega)]) (fun a h1 h2 => f a (by omega)) (f _ (by omega)) hk, b3.congr (by rw [f 0 (by omega)]) (by rw [f 101 (by omega)]) (f _ (by omega)) (f _ (by omega)), b4.congr (fun a ha => f a (by omega)), b5.congr (fun a ha => f a (by omega)), b6.congr (by rw [f 0 (by omega)]) (by rw [f 101 (by omega)]) (f _ (by omega)) (f _ (by omega)), b7.congr (by rw [f 101 (by omega)]) (f _ (by omega)) (f _ (by omega))⟩, fun t ht => ?_⟩
  · intro k hk3
    rw [h6, a7 k hk3, lastK_congr hk]
  · have h1 := (hx t ht).mono (mem' := mem') fun a ha => f a (by omega)
    exact h1.congr (a5.2.2 t ht) (hk _ (by omega)) (hk _ (by omega)) (fun j hj => hk _ (by omega))
/-- which law counts, as the class keeps it -/
theorem lw_of {sh : ab_S} {rf : ab_R} {mem : ab_N} {nx T k : Nat} {c : Nat → Int32} {f : Row} (hx : TxT f T) (hc : Cnt c f T) (ht : ∀ t, t < T → TxC sh rf mem nx f t) (hk : k < 3) : LW sh rf nx mem (c k) (oF f k T) := by
  have e := hc k hk
  unfold oF
  cases hl : lastK f k T with
  | none =>
    rw [hl] at e
    simp only at e
    rw [e]
    show ¬ (0 ≤ (-1000000005 : Int32) ∧ _)
    decide
  | some t =>
    rw [hl] at e
    simp only at e
    obtain ⟨h1, _⟩ := lastK_lt hl
    obtain ⟨b, cb, g1, g2, g3, g4, g5, g6, g7, g8, _⟩ := ht t h1
    obtain ⟨key, n, k1, k2, k3, k4, k5, _⟩ := hx.2.2 t h1
    have ef := (tx_of k1 k2 k3).1
    have hT := hx.2.1
    rw [e]
    refine ⟨t, by omega, rfl, b, cb, g1, g2, g3, g4, g5, g6, g7, ?_, g8, ?_, ?_⟩
    · simp only; omega
    · simp only; rw [ef]; exact k4
    · simp only; rw [ef]; exact k5
theorem lw_img {sh : ab_S} {rf : ab_R} {mem : ab_N} {nx T T' k : Nat} {c : Nat → Int32} {f g : Row} (hx : TxT f T) (hg : TxT g T') (hT : T' ≤ T) (hA : Agr g f T') (hc : Cnt c g T') (ht : ∀ t, t < T → TxC sh rf mem nx f t) (hk : k < 3) : LW sh rf nx mem (c k) (oF g k T') := lw_of hg hc (fun t h => (ht t (by omega)).congr (hx.2.2 t (by omega)) (hA t h).1 (hA t h).2.1 (hA t h).2.2) hk
/-- the class does it, then the reference does it with the same answer -/
def JC (l : Launch) (G : ab_G) (ol : ab_Ol) (mx mm : Nat) (as : List Value) (sh : ab_S) (rf : ab_R) (mem : ab_N) (nx : Nat) : Prop := ∀ K : ab_K, (∀ x mem1, (∀ K2 : ab_K, (∀ mem2, Inv sh rf mem2 nx → K2 (some (.int x)) sh rf mem2 nx) → ab_Cx l G ol 700 mm (.ref 101 :: as) sh rf mem1 nx K2) → K (some (.int x)) sh rf mem1 nx) → ab_Cx l G ol 700 mx (.ref 0 :: as) sh rf mem nx K
theorem ixe {i j : Nat} (h : nI i = nI j) (hi : i < 2 ^ 31) (hj : j < 2 ^ 31) : i = j := (nI_eq hi hj).mp h
