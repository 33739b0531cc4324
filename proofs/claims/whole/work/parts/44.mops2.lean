/-! THE REFERENCE: what is only thought -/
/-- it thinks: before holds f, the texts are f's -/
def Th (m0 mem : ab_N) (f : Row) : Prop := (∀ a, a ≠ 101 → a ≠ 102 → (a < 104 ∨ 108 < a) → a ≠ 115 → a ≠ 116 → mem a = m0 a) ∧ (∀ k, k ≠ 4 → mem 101 k = m0 101 k) ∧ (∀ k, k < 111 → mem 108 k = f k) ∧ ∀ k, 111 ≤ k → mem 102 k = f k
theorem Th.FD {m0 m1 m2 : ab_N} {f : Row} (h : Th m0 m1 f) (hF : FD m1 m2) (h2 : ∀ k, 111 ≤ k → m2 102 k = f k) : Th m0 m2 f := ⟨fun a a1 a2 a3 a4 a5 => (hF a a2 (by omega) (by omega) (by omega) a4 a5).trans (h.1 a a1 a2 a3 a4 a5), fun k hk => by rw [hF 101 (by decide) (by decide) (by decide) (by decide) (by decide) (by decide)]; exact h.2.1 k hk, fun k hk => by rw [hF 108 (by decide) (by decide) (by decide) (by decide) (by decide) (by decide)]; exact h.2.2.1 k hk, h2⟩
theorem Th.row {m0 m1 : ab_N} {f g : Row} (h : Th m0 m1 f) (h2 : ∀ k, 111 ≤ k → g k = f k) : Th m0 (ab_row m1 102 g) f := ⟨fun a a1 a2 a3 a4 a5 => by rw [row_ne _ _ a2]; exact h.1 a a1 a2 a3 a4 a5, fun k hk => by rw [row_ne _ _ (by decide)]; exact h.2.1 k hk, fun k hk => by rw [row_ne _ _ (by decide)]; exact h.2.2.1 k hk, fun k hk => by rw [row_at]; exact h2 k hk⟩
theorem Th.home {m0 m1 : ab_N} {f : Row} (h : Th m0 m1 f) (v : Int32) : Th m0 (ab_w m1 101 4 v) f := ⟨fun a a1 a2 a3 a4 a5 => by rw [ab_w_ne _ _ _ a1]; exact h.1 a a1 a2 a3 a4 a5, fun k hk => by rw [w_ne _ _ (Or.inr hk)]; exact h.2.1 k hk, fun k hk => by rw [ab_w_ne _ _ _ (by decide)]; exact h.2.2.1 k hk, fun k hk => by rw [ab_w_ne _ _ _ (by decide)]; exact h.2.2.2 k hk⟩
/-- it has put back -/
def Tb (m0 mem : ab_N) (f : Row) : Prop := FS m0 mem ∧ ∀ k, k < 111 → mem 108 k = f k
theorem Tb.th {m0 mem : ab_N} {f : Row} (h : Tb m0 mem f) (hf : m0 102 = f) : Th m0 mem f := ⟨fun a a1 a2 a3 a4 a5 => h.1.1 a a2 a3 a4 a5, fun k _ => by rw [h.1.1 101 (by decide) (by decide) (by decide) (by decide)], h.2, fun k _ => by rw [h.1.2, hf]⟩
theorem lea_rg {v : Nat → Int32} {a : Nat} : ∀ {m : Nat} {q : Nat × Int32}, lea v a m = some q → a ≤ q.1 ∧ q.1 < a + m
  | 0, q, h => by cases h
  | m + 1, q, h => by
    unfold lea at h
    cases hl : lea v a m with
    | none => rw [hl] at h; simp only at h; cases h; exact ⟨by simp only; omega, by simp only; omega⟩
    | some p =>
      rw [hl] at h
      simp only at h
      have := lea_rg hl
      split at h
      · cases h; omega
      · cases h; exact ⟨by simp only; omega, by simp only; omega⟩
def lP (z : Int32) (o : Option (Nat × Int32)) : Int32 := match o with
  | none => z
  | some q => nI q.1
def lV (o : Option (Nat × Int32)) : Int32 := match o with
  | none => 0
  | some q => q.2
section MF
variable {l : Launch} {G : ab_G} {ol : ab_Ol} {d : Nat} {sh : ab_S} {rf : ab_R} {mem : ab_N} {nx : Nat} {K : ab_K} {N : Nat} {f : Row}
theorem m_thinks (hS : St sh rf nx) (hf : mem 102 = f) (h : ∀ mem', Tb mem mem' f → K none sh rf mem' nx) : ab_Cx l G ol (d + 1) mM_thinks [.ref 101] sh rf mem nx K := by
  suffices loop : ∀ r i, i + r = 111 → ∀ mem', FS mem mem' → (∀ k, k < i → mem' 108 k = f k) → ab_Go l G ol d mM_thinks (ab_mc mM_thinks) (ab_ms mM_thinks) (fun r sh rf mem nx _ _ => K r sh rf mem nx) 2 [.ref 101, .int (nI i)] [] sh rf mem' nx 0 0 from e_mM_thinks (loop 111 0 rfl mem FS.rfl (fun k q => by omega))
  intro r
  induction r with
  | zero =>
    intro i hi mem' F hk
    have : i = 111 := by omega
    subst this
    exact h_mM_thinks_2 ⟨fun _ => h mem' ⟨F, hk⟩, fun q => absurd (by decide) q⟩
  | succ r ih =>
    intro i hi mem' F hk
    refine h_mM_thinks_2 ⟨fun q => absurd q (nI_ge (b := 111) (by omega) (by decide)), fun _ => ⟨m9 hS, rd_of hS rfl rfl (mn hS (vp_in_nI (by omega) (by decide)) ⟨is_of hS rfl rfl, in_of hS rfl rfl (vp_in_nI (by omega : i < 111) (by decide)), ?_⟩)⟩⟩
    rw [cl_nI (by omega), nI_1]
    refine ih (i + 1) (by omega) _ ⟨fun a a1 a2 a3 a4 => ?_, ?_⟩ (fun k hk2 => ?_)
    · rw [ab_w_ne _ _ _ (by omega)]; exact F.1 a a1 a2 a3 a4
    · rw [ab_w_ne _ _ _ (by decide)]; exact F.2
    · by_cases z : k = i
      · subst z; rw [w_eq, F.2, hf]
      · rw [w_ne _ _ (Or.inr z)]; exact hk k (by omega)
theorem m_putsBack (hS : St sh rf nx) {m0 : ab_N} (hf : m0 102 = f) (h4 : m0 101 4 = homV 8) (hT : Th m0 mem f) (h : ∀ mem', Tb m0 mem' f → K none sh rf mem' nx) : ab_Cx l G ol (d + 1) mM_putsBack [.ref 101] sh rf mem nx K := by
  suffices loop : ∀ r i, i + r = 111 → ∀ mem', Th m0 mem' f → (∀ k, k < i → mem' 102 k = f k) → ab_Go l G ol d mM_putsBack (ab_mc mM_putsBack) (ab_ms mM_putsBack) (fun r sh rf mem nx _ _ => K r sh rf mem nx) 2 [.ref 101, .int (nI i)] [] sh rf mem' nx 0 0 from e_mM_putsBack (loop 111 0 rfl mem hT (fun k q => by omega))
  intro r
  induction r with
  | zero =>
    intro i hi mem' T hk
    have : i = 111 := by omega
    subst this
    refine h_mM_putsBack_2 ⟨fun _ => ⟨m9 hS, h _ ⟨⟨fun a a1 a2 a3 a4 => ?_, ?_⟩, fun k q => ?_⟩⟩, fun q => absurd (by decide) q⟩
    · by_cases z : a = 101
      · subst z
        funext k
        by_cases k4 : k = 4
        · subst k4; rw [w_eq, h4]; rfl
        · rw [w_ne _ _ (Or.inr k4)]; exact T.2.1 k k4
      · rw [ab_w_ne _ _ _ z]; exact T.1 a z a1 a2 a3 a4
    · rw [ab_w_ne _ _ _ (by decide), hf]
      funext k
      rcases Nat.lt_or_ge k 111 with g | g
      · exact hk k g
      · exact T.2.2.2 k g
    · rw [ab_w_ne _ _ _ (by decide)]; exact T.2.2.1 k q
  | succ r ih =>
    intro i hi mem' T hk
    refine h_mM_putsBack_2 ⟨fun q => absurd q (nI_ge (b := 111) (by omega) (by decide)), fun _ => ⟨m9 hS, rd_of hS rfl rfl ⟨m9 hS, ma hS rfl rfl rfl (vp_in_nI (by omega) (by decide)) ⟨is_of hS rfl rfl, in_of hS rfl rfl (vp_in_nI (by omega : i < 1483) (by decide)), ?_⟩⟩⟩⟩
    rw [cl_nI (by omega), nI_1]
    refine ih (i + 1) (by omega) _ ⟨fun a a1 a2 a3 a4 a5 => ?_, fun k q => ?_, fun k q => ?_, fun k q => ?_⟩ (fun k q => ?_)
    · rw [ab_w_ne _ _ _ a2]; exact T.1 a a1 a2 a3 a4 a5
    · rw [ab_w_ne _ _ _ (by decide)]; exact T.2.1 k q
    · rw [ab_w_ne _ _ _ (by decide)]; exact T.2.2.1 k q
    · rw [w_ne _ _ (Or.inr (by omega))]; exact T.2.2.2 k q
    · by_cases z : k = i
      · subst z; rw [w_eq]; exact T.2.2.1 k (by omega)
      · rw [w_ne _ _ (Or.inr z)]; exact hk k (by omega)
/-- days pass in thought -/
theorem m_goT (hS : St sh rf nx) {m0 : ab_N} {T D home n : Nat} {g : Row} (hN : N ≤ 8) (hT : Th m0 mem f) (hx : TxT f T) (h6 : g 6 = f 6) (hn : D + n ≤ 100000) (hg : mem 102 = g) (hW : Wf N D g) (hh : mem 101 4 = homV home)
    (h : ∀ mem', Th m0 mem' f → mem' 101 = mem 101 → mem' 102 = (pasF (ctO (oF f 0 T)) home N g n).1 → K (some (.int (pasF (ctO (oF f 0 T)) home N g n).2)) sh rf mem' nx) : ab_Cx l G ol (d + 6) mM_goesOn [.ref 101, .int (nI n)] sh rf mem nx K := by
  have hi : ∀ k, 111 ≤ k → g k = f k := fun k hk => by rw [← hg]; exact hT.2.2.2 k hk
  have eo : oF g 0 T = oF f 0 T := oF_congr hi
  refine m_goesOn (d := d) (home := home) (T := T) (D := D) hS hN hn hW (TxT_congr h6 hi hx) hh hg fun mem' F e => ?_
  rw [eo] at e ⊢
  exact h mem' (hT.FD F fun k hk => by rw [e, pasF_hi hN hk]; exact hi k hk) (F 101 (by decide) (by decide) (by decide) (by decide) (by decide) (by decide)) e
theorem m_padBehind (hS : St sh rf nx) {m0 : ab_N} {T D home n : Nat} {g : Row} (hN : N ≤ 8) (hf : m0 102 = f) (h4 : m0 101 4 = homV 8) (hT : Th m0 mem f) (hx : TxT f T) (h6 : g 6 = f 6) (hn : D + n ≤ 100000) (hg : mem 102 = g) (hW : Wf N D g) (hh : mem 101 4 = homV home)
    (h : ∀ mem', Tb m0 mem' f → K (some (.int (padF (pasF (ctO (oF f 0 T)) home N g n).1 N))) sh rf mem' nx) : ab_Cx l G ol (d + 7) mM_padBehind [.ref 101, .int (nI n)] sh rf mem nx K := by
  have w1 := (hW.pass (home := home) (ctO_rg (oF f 0 T)) n hn).1.1
  refine e_mM_padBehind ⟨m9 hS, m_goT (d := d) (home := home) (D := D) hS hN hT hx h6 hn hg hW hh fun mem1 T1 e101 e1 => ⟨_, rfl, m9 hS, m_pad hS hN (by rw [e1]; exact w1) ⟨_, rfl, m9 hS, m_putsBack hS hf h4 T1 fun mem2 T2 => ⟨rfl, trivial, ?_⟩⟩⟩⟩
  rw [e1]
  exact h mem2 T2
/-- the conditions under which it thinks -/
def TC (m0 : ab_N) (N D T : Nat) (f : Row) : Prop := N ≤ 8 ∧ m0 102 = f ∧ m0 101 4 = homV 8 ∧ Wf N D f ∧ D ≤ 9999 ∧ TxT f T
theorem m_behind (hS : St sh rf nx) {D T : Nat} (hC : TC mem N D T f) {n w : Int32} (hB : ¬ ((0 ≤ n ∧ n ≤ 100) ∧ (0 ≤ w ∧ w ≤ nI (2 + N))) → K (some (.int (-1000000001))) sh rf mem nx) (hK : ∀ k j, k ≤ 100 → j ≤ 2 + N → n = nI k → w = nI j → ∀ mem', FS mem mem' → K (some (.int (behF (pasF (ctO (oF f 0 T)) 8 N f k).1 N w))) sh rf mem' nx) : ab_Cx l G ol (d + 7) mM_behind [.ref 101, .int n, .int w] sh rf mem nx K := by
  obtain ⟨hN, hf, h4, hW, hD, hx⟩ := hC
  have h1 : mem 102 1 = nI N := by rw [hf]; exact hW.1
  have key : ∀ k j, k ≤ 100 → j ≤ 2 + N → n = nI k → w = nI j → ab_is sh nx 101 9 ∧ ab_Cx l G ol (d + 6) mM_thinks [.ref 101] sh rf mem nx (fun r2 sh2 rf2 mem2 nx2 => r2 = none ∧ (ab_is sh2 nx2 101 9 ∧ ab_Cx l G ol (d + 6) mM_goesOn [.ref 101, .int n] sh2 rf2 mem2 nx2 (fun r3 sh3 rf3 mem3 nx3 => ∃ x3, r3 = some (.int x3) ∧ ((¬ w = (0 : Int32) → (¬ w = (1 : Int32) → (¬ w = (2 : Int32) → ab_is sh3 nx3 101 9 ∧ ab_Cx l G ol (d + 6) mM_signsOf [.ref 101, .int (w - (3 : Int32))] sh3 rf3 mem3 nx3 (fun r4 sh4 rf4 mem4 nx4 => ∃ x4, r4 = some (.int x4) ∧ (ab_is sh4 nx4 101 9 ∧ ab_Cx l G ol (d + 6) mM_putsBack [.ref 101] sh4 rf4 mem4 nx4 (fun r5 sh5 rf5 mem5 nx5 => r5 = none ∧ (True ∧ K (some (.int x4)) sh5 rf5 mem5 nx5))))) ∧ (w = (2 : Int32) → ab_is sh3 nx3 101 9 ∧ ab_Cx l G ol (d + 6) mM_sumOf [.ref 101, .int ((5 : Int32))] sh3 rf3 mem3 nx3 (fun r6 sh6 rf6 mem6 nx6 => ∃ x6, r6 = some (.int x6) ∧ (ab_is sh6 nx6 101 9 ∧ ab_Cx l G ol (d + 6) mM_putsBack [.ref 101] sh6 rf6 mem6 nx6 (fun r7 sh7 rf7 mem7 nx7 => r7 = none ∧ (True ∧ K (some (.int x6)) sh7 rf7 mem7 nx7)))))) ∧ (w = (1 : Int32) → ab_is sh3 nx3 101 9 ∧ ab_Cx l G ol (d + 6) mM_sumOf [.ref 101, .int ((4 : Int32))] sh3 rf3 mem3 nx3 (fun r8 sh8 rf8 mem8 nx8 => ∃ x8, r8 = some (.int x8) ∧ (ab_is sh8 nx8 101 9 ∧ ab_Cx l G ol (d + 6) mM_putsBack [.ref 101] sh8 rf8 mem8 nx8 (fun r9 sh9 rf9 mem9 nx9 => r9 = none ∧ (True ∧ K (some (.int x8)) sh9 rf9 mem9 nx9)))))) ∧ (w = (0 : Int32) → ab_is sh3 nx3 101 9 ∧ ab_Cx l G ol (d + 6) mM_pad [.ref 101] sh3 rf3 mem3 nx3 (fun r10 sh10 rf10 mem10 nx10 => ∃ x10, r10 = some (.int x10) ∧ (ab_is sh10 nx10 101 9 ∧ ab_Cx l G ol (d + 6) mM_putsBack [.ref 101] sh10 rf10 mem10 nx10 (fun r11 sh11 rf11 mem11 nx11 => r11 = none ∧ (True ∧ K (some (.int x10)) sh11 rf11 mem11 nx11))))))))) := by
    rintro k j hk hj rfl rfl
    refine ⟨m9 hS, m_thinks hS hf fun mem1 T1 => ⟨rfl, m9 hS, m_goT (d := d) (m0 := mem) (home := 8) (D := D) (T := T) hS hN (T1.th hf) hx rfl (by omega) (by rw [T1.1.2]; exact hf) hW (by rw [T1.1.1 101 (by decide) (by decide) (by decide) (by decide)]; exact h4) fun mem2 T2 e101 e2 => ⟨_, rfl, ?_⟩⟩⟩
    have w1 : mem2 102 1 = nI N := by rw [e2]; exact (hW.pass (home := 8) (ctO_rg (oF f 0 T)) k (by omega)).1.1
    have fin : ∀ x, x = behF (mem2 102) N (nI j) → ab_is sh nx 101 9 ∧ ab_Cx l G ol (d + 6) mM_putsBack [.ref 101] sh rf mem2 nx (fun r5 sh5 rf5 mem5 nx5 => r5 = none ∧ (True ∧ K (some (.int x)) sh5 rf5 mem5 nx5)) := by
      rintro x rfl
      refine ⟨m9 hS, m_putsBack hS hf h4 T2 fun mem3 T3 => ⟨rfl, trivial, ?_⟩⟩
      rw [e2]
      exact hK k j hk hj rfl rfl mem3 T3.1
    unfold behF at fin
    refine ⟨fun c0 => ⟨fun c1 => ⟨fun c2 => ?_, fun c => ⟨m9 hS, m_sumOf hS (k := 5) hN (by decide) w1 ⟨_, rfl, fin _ ?_⟩⟩⟩, fun c => ⟨m9 hS, m_sumOf hS (k := 4) hN (by decide) w1 ⟨_, rfl, fin _ ?_⟩⟩⟩, fun c => ⟨m9 hS, m_pad hS hN w1 ⟨_, rfl, fin _ ?_⟩⟩⟩
    · have j3 : 3 ≤ j := by
        rcases Nat.lt_or_ge j 3 with g | g
        · exfalso
          have : j = 0 ∨ j = 1 ∨ j = 2 := by omega
          rcases this with rfl | rfl | rfl
          · exact c0 rfl
          · exact c1 rfl
          · exact c2 rfl
        · exact g
      have e3 : nI j - 3 = nI (j - 3) := pk_sub (b := 3) j3
      rw [e3]
      refine ⟨m9 hS, m_signsOf hS (by omega) ⟨_, rfl, fin _ ?_⟩⟩
      rw [if_neg c0, if_neg c1, if_neg c2, e3, cl_nI (by omega)]
    · rw [if_neg c0, if_neg c1, if_pos c]
    · rw [if_neg c0, if_pos c]
    · rw [if_pos c]
  refine e_mM_behind ⟨by decide, m_in ⟨_, rfl, br0 (fun q => ?_) (fun q => ⟨trivial, hB fun z => q z.1⟩)⟩⟩
  obtain ⟨k, hk, ek⟩ := rg_of (M := 100) (by omega) q
  refine ⟨fun z => ⟨trivial, hB fun y => absurd z (Int32.not_lt.mpr y.2.1)⟩, fun z => ⟨fun z2 => ?_, fun z2 => ⟨m9 hS, m_isOne hS h1 ⟨_, rfl, br1 (fun y => ?_) (fun y => ⟨trivial, hB fun y2 => y ?_⟩)⟩⟩⟩⟩
  · obtain ⟨j, hj, ej⟩ := rg_of (M := 2) (by omega) ⟨Int32.not_lt.mp z, z2⟩
    exact key k j hk (by omega) ek ej
  · obtain ⟨i, hi, ei⟩ := ix_of (by omega) y
    refine key k (i + 3) hk (by omega) ek ?_
    rw [← nI_add, ← ei]
    exact (Int32.sub_add_cancel _ _).symm
  · obtain ⟨j, hj, ej⟩ := rg_of (M := 2 + N) (by omega) y2.2
    have j3 : 3 ≤ j := by
      rcases Nat.lt_or_ge j 3 with g | g
      · exact absurd (by rw [ej]; exact nI_le (b := 2) (by omega) (by decide)) z2
      · exact g
    rw [ej, show nI j - 3 = nI (j - 3) from pk_sub (b := 3) j3]
    exact ix_in (by omega) (by omega)
set_option maxHeartbeats 4000000 in
theorem m_bestLine (hS : St sh rf nx) {D T : Nat} (hC : TC mem N D T f) {n w : Int32} (hB : ¬ ((1 ≤ n ∧ n ≤ 30) ∧ (0 ≤ w ∧ w ≤ 1)) → K (some (.int (-1000000001))) sh rf mem nx) (hK : ∀ k, 1 ≤ k → k ≤ 30 → n = nI k → (0 ≤ w ∧ w ≤ 1) → ∀ mem', FS mem mem' → K (some (.int (leA (lea (vLine (ctO (oF f 0 T)) N f k) 1 120) w))) sh rf mem' nx) : ab_Cx l G ol (d + 8) mM_bestLine [.ref 101, .int n, .int w] sh rf mem nx K := by
  obtain ⟨hN, hf, h4, hW, hD, hx⟩ := hC
  refine e_mM_bestLine ⟨by decide, m_in ⟨_, rfl, br0 (fun q => ⟨by decide, m_in ⟨_, rfl, br1 (fun q2 => ⟨m9 hS, m_thinks hS hf fun mem1 T1 => ⟨rfl, ?_⟩⟩) (fun q2 => ⟨trivial, hB fun z => q2 z.2⟩)⟩⟩) (fun q => ⟨trivial, hB fun z => q z.1⟩)⟩⟩
  obtain ⟨k, hk, rfl⟩ := rg_of (M := 30) (by omega) ⟨Int32.le_trans (by decide) q.1, q.2⟩
  have k1 : 1 ≤ k := (nI_leI (a := 1) (by omega) (by omega)).mp q.1
  generalize hv : vLine (ctO (oF f 0 T)) N f k = v at *
  suffices loop : ∀ r m, m + r = 120 → ∀ mem', Tb mem mem' f → ∀ u, ab_Go l G ol (d + 7) mM_bestLine (ab_mc mM_bestLine) (ab_ms mM_bestLine) (fun r sh rf mem nx _ _ => K r sh rf mem nx) 34 [.ref 101, .int (nI k), .int w, .int (lP 0 (lea v 1 m)), .int (lV (lea v 1 m)), .int (nI (1 + m)), u] [] sh rf mem' nx 0 0 from loop 120 0 rfl mem1 T1 _
  intro r
  induction r with
  | zero =>
    intro m hm mem' T' u
    have : m = 120 := by omega
    subst this
    obtain ⟨p, ep⟩ := lea_some v 1 120 (by decide)
    have hk := hK k k1 hk rfl q2 mem' T'.1
    rw [hv] at hk
    rw [ep]
    refine h_mM_bestLine_34 ⟨fun _ => ⟨fun c => ⟨trivial, ?_⟩, fun c => ⟨trivial, ?_⟩⟩, fun z => absurd (by decide) z⟩
    · rw [leA_1 ep c] at hk; exact hk
    · rw [leA_0 ep c] at hk; exact hk
  | succ r ih =>
    intro m hm mem' T' u
    have nxt := ih (m + 1) (by omega)
    rw [lea, ← hv] at nxt
    refine h_mM_bestLine_34 ⟨fun z => absurd z (nI_nlt (a := 120) (by omega) (by omega)), fun _ => mn hS (pk_in 3 1483 (by decide)) ⟨m9 hS, ?_⟩⟩
    have T2 : Th mem (ab_row mem' 102 (upd f 3 (nI (1 + m)))) f := (T'.th hf).row fun k hk => pk_un (by omega)
    have em : ab_w mem' 102 (Int32.toNatClampNeg 3) (nI (1 + m)) = ab_row mem' 102 (upd f 3 (nI (1 + m))) := by
      rw [show Int32.toNatClampNeg (3 : Int32) = 3 by decide, ← hf, ← T'.1.2]; rfl
    rw [em]
    refine m_padBehind (d := d) (m0 := mem) (f := f) (g := upd f 3 (nI (1 + m))) (T := T) (D := D) (home := 8) hS hN hf h4 T2 hx (pk_un (by decide)) (by omega) (row_at _ _ _) (hW.l3 (by omega) (by omega)) (by rw [row_ne _ _ (by decide), T'.1.1 101 (by decide) (by decide) (by decide) (by decide)]; exact h4) fun mem2 Tb2 => ⟨_, rfl, ?_⟩
    rw [nI_1, show 1 + m + 1 = 1 + (m + 1) by omega, show padF (pasF (ctO (oF f 0 T)) 8 N (upd f 3 (nI (1 + m))) k).1 N = vLine (ctO (oF f 0 T)) N f k (1 + m) from rfl, hv] at *
    cases hl : lea v 1 m with
    | none =>
      rw [hl] at nxt
      exact ⟨fun _ => ⟨fun z => absurd rfl z, fun _ => nxt mem2 Tb2 _⟩, fun z => absurd rfl z⟩
    | some p =>
      rw [hl] at nxt
      obtain ⟨p1, p2⟩ := lea_rg hl
      simp only at nxt
      by_cases z : p.2 ≤ v (1 + m)
      · rw [if_pos z] at nxt
        exact ⟨fun y => absurd y (nI_ne0 (by omega) (by omega)), fun _ => ⟨fun _ => ⟨fun _ => nxt mem2 Tb2 _, fun y => absurd ((nI_eq (by omega) (by omega)).mp y) (by omega)⟩, fun y => absurd z y⟩⟩
      · rw [if_neg z] at nxt
        exact ⟨fun y => absurd y (nI_ne0 (by omega) (by omega)), fun _ => ⟨fun y => absurd y z, fun _ => ⟨fun y => absurd rfl y, fun _ => nxt mem2 Tb2 _⟩⟩⟩
set_option maxHeartbeats 4000000 in
theorem m_bestLooks (hS : St sh rf nx) {D T : Nat} (hC : TC mem N D T f) {n p w : Int32} (hB : ¬ ((1 ≤ n ∧ n ≤ 60) ∧ (0 ≤ p ∧ p ≤ 999) ∧ (0 ≤ w ∧ w ≤ 1)) → K (some (.int (-1000000001))) sh rf mem nx) (hK : ∀ k, 1 ≤ k → k ≤ 60 → n = nI k → (0 ≤ p ∧ p ≤ 999) → (0 ≤ w ∧ w ≤ 1) → ∀ mem', FS mem mem' → K (some (.int (leA (lea (vLook (ctO (oF f 0 T)) N f k p) 0 9) w))) sh rf mem' nx) : ab_Cx l G ol (d + 8) mM_bestLooks [.ref 101, .int n, .int p, .int w] sh rf mem nx K := by
  obtain ⟨hN, hf, h4, hW, hD, hx⟩ := hC
  refine e_mM_bestLooks ⟨by decide, m_in ⟨_, rfl, br0 (fun q => ⟨by decide, m_in ⟨_, rfl, br0 (fun q3 => ⟨by decide, m_in ⟨_, rfl, br1 (fun q2 => ⟨m9 hS, m_thinks hS hf fun mem1 T1 => ⟨rfl, ?_⟩⟩) (fun q2 => ⟨trivial, hB fun z => q2 z.2.2⟩)⟩⟩) (fun q3 => ⟨trivial, hB fun z => q3 z.2.1⟩)⟩⟩) (fun q => ⟨trivial, hB fun z => q z.1⟩)⟩⟩
  obtain ⟨k, hk, rfl⟩ := rg_of (M := 60) (by omega) ⟨Int32.le_trans (by decide) q.1, q.2⟩
  have k1 : 1 ≤ k := (nI_leI (a := 1) (by omega) (by omega)).mp q.1
  generalize hv : vLook (ctO (oF f 0 T)) N f k p = v at *
  suffices loop : ∀ r m, m + r = 9 → ∀ mem', Tb mem mem' f → ∀ u, ab_Go l G ol (d + 7) mM_bestLooks (ab_mc mM_bestLooks) (ab_ms mM_bestLooks) (fun r sh rf mem nx _ _ => K r sh rf mem nx) 46 [.ref 101, .int (nI k), .int p, .int w, .int (lP (-1) (lea v 0 m)), .int (lV (lea v 0 m)), .int (nI m), u] [] sh rf mem' nx 0 0 from loop 9 0 rfl mem1 T1 _
  intro r
  induction r with
  | zero =>
    intro m hm mem' T' u
    have : m = 9 := by omega
    subst this
    obtain ⟨b, ep⟩ := lea_some v 0 9 (by decide)
    have hk := hK k k1 hk rfl q3 q2 mem' T'.1
    rw [hv] at hk
    rw [ep]
    refine h_mM_bestLooks_46 ⟨fun _ => ⟨fun c => ⟨trivial, ?_⟩, fun c => ⟨trivial, ?_⟩⟩, fun z => absurd (by decide) z⟩
    · rw [leA_1 ep c] at hk; exact hk
    · rw [leA_0 ep c] at hk; exact hk
  | succ r ih =>
    intro m hm mem' T' u
    have nxt := ih (m + 1) (by omega)
    rw [lea, ← hv, Nat.zero_add] at nxt
    refine h_mM_bestLooks_46 ⟨fun z => absurd z (nI_nlt (a := 8) (by omega) (by omega)), fun _ => mn hS (pk_in 4 1483 (by decide)) ⟨m9 hS, ?_⟩⟩
    have T2 : Th mem (ab_row mem' 102 (upd f 4 (nI m))) f := (T'.th hf).row fun k hk => pk_un (by omega)
    have em : ab_w mem' 102 (Int32.toNatClampNeg 4) (nI m) = ab_row mem' 102 (upd f 4 (nI m)) := by
      rw [show Int32.toNatClampNeg (4 : Int32) = 4 by decide, ← hf, ← T'.1.2]; rfl
    rw [em]
    refine m_padBehind (d := d) (m0 := mem) (f := f) (g := upd f 4 (nI m)) (T := T) (D := D) (home := 8) hS hN hf h4 T2 hx (pk_un (by decide)) (by omega) (row_at _ _ _) (hW.l4 (by omega)) (by rw [row_ne _ _ (by decide), T'.1.1 101 (by decide) (by decide) (by decide) (by decide)]; exact h4) fun mem2 Tb2 => ⟨_, rfl, ?_⟩
    rw [nI_1, show padF (pasF (ctO (oF f 0 T)) 8 N (upd f 4 (nI m)) k).1 N + p * nI m * nI k = vLook (ctO (oF f 0 T)) N f k p m from rfl, hv] at *
    cases hl : lea v 0 m with
    | none =>
      rw [hl] at nxt
      exact ⟨fun _ => ⟨fun z => absurd rfl z, fun _ => nxt mem2 Tb2 _⟩, fun z => absurd (show (-1 : Int32) < 0 by decide) z⟩
    | some b =>
      rw [hl] at nxt
      obtain ⟨p1, p2⟩ := lea_rg hl
      simp only at nxt
      by_cases z : b.2 ≤ v m
      · rw [if_pos z] at nxt
        exact ⟨fun y => absurd y (nI_pos (by omega)), fun _ => ⟨fun _ => ⟨fun _ => nxt mem2 Tb2 _, fun y => absurd ((nI_eq (by omega) (by omega)).mp y) (by omega)⟩, fun y => absurd z y⟩⟩
      · rw [if_neg z] at nxt
        exact ⟨fun y => absurd y (nI_pos (by omega)), fun _ => ⟨fun y => absurd y z, fun _ => ⟨fun y => absurd rfl y, fun _ => nxt mem2 Tb2 _⟩⟩⟩
set_option maxHeartbeats 4000000 in
theorem m_without (hS : St sh rf nx) {D T : Nat} (hC : TC mem N D T f) {n w : Int32} (hB : ¬ ((1 ≤ n ∧ n ≤ 60) ∧ (0 ≤ w ∧ w ≤ 1)) → K (some (.int (-1000000001))) sh rf mem nx) (hZ : (1 ≤ n ∧ n ≤ 60) ∧ (0 ≤ w ∧ w ≤ 1) → N = 0 → ∀ mem', FS mem mem' → K (some (.int (-1000000005))) sh rf mem' nx) (hK : ∀ k, 1 ≤ k → k ≤ 60 → n = nI k → (0 ≤ w ∧ w ≤ 1) → 0 < N → ∀ mem', FS mem mem' → K (some (.int (leA (lea (vOut (ctO (oF f 0 T)) N f k) 0 N) w))) sh rf mem' nx) : ab_Cx l G ol (d + 8) mM_without [.ref 101, .int n, .int w] sh rf mem nx K := by
  obtain ⟨hN, hf, h4, hW, hD, hx⟩ := hC
  refine e_mM_without ⟨by decide, m_in ⟨_, rfl, br0 (fun q => ⟨by decide, m_in ⟨_, rfl, br1 (fun q2 => ⟨m9 hS, m_thinks hS hf fun mem1 T1 => ⟨rfl, ?_⟩⟩) (fun q2 => ⟨trivial, hB fun z => q2 z.2⟩)⟩⟩) (fun q => ⟨trivial, hB fun z => q z.1⟩)⟩⟩
  obtain ⟨k, hk, rfl⟩ := rg_of (M := 60) (by omega) ⟨Int32.le_trans (by decide) q.1, q.2⟩
  have k1 : 1 ≤ k := (nI_leI (a := 1) (by omega) (by omega)).mp q.1
  have c1 : Int32.toNatClampNeg (1 : Int32) = 1 := by decide
  have e1 : ∀ mem', Tb mem mem' f → mem' 102 1 = nI N := fun mem' T' => by rw [T'.1.2, hf]; exact hW.1
  generalize hv : vOut (ctO (oF f 0 T)) N f k = v at *
  suffices loop : ∀ r m, m + r = N → ∀ mem', Tb mem mem' f → ∀ u, ab_Go l G ol (d + 7) mM_without (ab_mc mM_without) (ab_ms mM_without) (fun r sh rf mem nx _ _ => K r sh rf mem nx) 34 [.ref 101, .int (nI k), .int w, .int (lP (-1) (lea v 0 m)), .int (lV (lea v 0 m)), .int (nI m), u] [] sh rf mem' nx 0 0 from loop N 0 (by omega) mem1 T1 _
  intro r
  induction r with
  | zero =>
    intro m hm mem' T' u
    have : m = N := by omega
    subst this
    refine h_mM_without_34 (mn hS (pk_in 1 1483 (by decide)) ?_)
    rw [c1, e1 mem' T']
    refine ⟨fun _ => ?_, fun z => absurd (Int32.le_refl _) z⟩
    rcases Nat.eq_zero_or_pos m with g | g
    · subst g
      exact ⟨fun z => absurd z (show ¬ (0 : Int32) ≤ -1 by decide), fun _ => ⟨trivial, hZ ⟨q, q2⟩ rfl mem' T'.1⟩⟩
    · obtain ⟨b, ep⟩ := lea_some v 0 m g
      obtain ⟨p1, p2⟩ := lea_rg ep
      have hk := hK k k1 hk rfl q2 g mem' T'.1
      rw [hv] at hk
      rw [ep]
      refine ⟨fun _ => ⟨fun c => ⟨trivial, ?_⟩, fun c => ⟨trivial, ?_⟩⟩, fun z => absurd (nI_pos' (by omega)) z⟩
      · rw [leA_1 ep c] at hk; exact hk
      · rw [leA_0 ep c] at hk; exact hk
  | succ r ih =>
    intro m hm mem' T' u
    have nxt := ih (m + 1) (by omega)
    rw [lea, ← hv, Nat.zero_add] at nxt
    refine h_mM_without_34 (mn hS (pk_in 1 1483 (by decide)) ?_)
    rw [c1, e1 mem' T']
    refine ⟨fun z => absurd z (nI_ge (by omega) (by omega)), fun _ => ⟨m9 hS, m9 hS, ?_⟩⟩
    refine m_padBehind (d := d) (m0 := mem) (f := f) (g := f) (T := T) (D := D) (home := m) hS hN hf h4 ((T'.th hf).home _) hx rfl (by omega) (by rw [ab_w_ne _ _ _ (by decide), T'.1.2, hf]) hW (by rw [w_eq]; unfold homV; rw [if_pos (by omega)]) fun mem2 Tb2 => ⟨_, rfl, ?_⟩
    rw [nI_1, show padF (pasF (ctO (oF f 0 T)) m N f k).1 N = vOut (ctO (oF f 0 T)) N f k m from rfl, hv] at *
    cases hl : lea v 0 m with
    | none =>
      rw [hl] at nxt
      exact ⟨fun _ => ⟨fun z => absurd rfl z, fun _ => nxt mem2 Tb2 _⟩, fun z => absurd (show (-1 : Int32) < 0 by decide) z⟩
    | some b =>
      rw [hl] at nxt
      obtain ⟨p1, p2⟩ := lea_rg hl
      simp only at nxt
      by_cases z : b.2 ≤ v m
      · rw [if_pos z] at nxt
        exact ⟨fun y => absurd y (nI_pos (by omega)), fun _ => ⟨fun _ => ⟨fun _ => nxt mem2 Tb2 _, fun y => absurd ((nI_eq (by omega) (by omega)).mp y) (by omega)⟩, fun y => absurd z y⟩⟩
      · rw [if_neg z] at nxt
        exact ⟨fun y => absurd y (nI_pos (by omega)), fun _ => ⟨fun y => absurd y z, fun _ => ⟨fun y => absurd rfl y, fun _ => nxt mem2 Tb2 _⟩⟩⟩
end MF
