/-! THE LAW'S ENTRY: the machine's start is a start of the small machine -/
def kaV (j : Nat) : Int32 := [-1, 0, 0, 1, 2, 0].getD j 0
def smT (i : Nat) : Term := .string (ab_strs.getD i ("", 0, "")).1 (ab_strs.getD i ("", 0, "")).2.1
def smO (b t : Nat) (aK aV : Nat → Nat) (k : Nat) : Nat := if k = 0 then b else if k = 1 then t else if k < 8 then aK (k - 2) else aV (k - 8)
def nrw : List Cond := flatC (Jvm.Cond.and given_1 narrow_1)
theorem e_in : ∀ c, c < 10 → Cond.instantiable (ab_cl c).1 (ab_cl c).2.2 ∈ lw_tbl := by decide +kernel
theorem e_nst : ∀ q ∈ ab_nest, Cond.methodLinkNest q.1 q.2.1 (ab_Y q.2.2) "RoundFigures" ∈ lw_tbl := by decide +kernel
theorem e_fl : Cond.fieldLinkNest RX6 43 "RoundFigures" "KIND_ABOVE" "[I" "RoundFigures" ∈ lw_tbl := by decide +kernel
theorem e_ao : ∀ c, c < 4 → Cond.arrayOver (.object (ab_cl (3 + c)).1) ∈ lw_tbl := by decide +kernel
theorem e_a0 : Cond.arrayClass .int ∈ lw_tbl := by decide +kernel
theorem e_a1 : Cond.arrayClass .boolean ∈ lw_tbl := by decide +kernel
theorem e_a2 : Cond.arrayClass .char ∈ lw_tbl := by decide +kernel
theorem e_s1 : Cond.laysStatic "RoundFigures" "KIND_ABOVE" "[I" ∈ lw_tbl ∧ Cond.initialized "RoundFigures" ∈ lw_tbl := by decide +kernel
theorem e_s2 : Cond.laysStatic "java/lang/String" "COMPACT_STRINGS" "Z" ∈ lw_tbl ∧ Cond.initialized "java/lang/String" ∈ lw_tbl := by decide +kernel
theorem e_s3 : Cond.laysStatic "jdk/internal/util/Preconditions" "SIOOBE_FORMATTER" "Ljava/util/function/BiFunction;" ∈ lw_tbl ∧ Cond.initialized "jdk/internal/util/Preconditions" ∈ lw_tbl := by decide +kernel
theorem e_sr : ∀ i, i < 6 → Cond.stringRef (ab_strs.getD i ("", 0, "")).1 (ab_strs.getD i ("", 0, "")).2.1 (ab_strs.getD i ("", 0, "")).2.2 ∈ lw_tbl := by decide +kernel
theorem n_ex : ∀ i, i < 6 → Cond.exactly (smT i) "java/lang/String" ∈ nrw := by decide +kernel
theorem n_co : ∀ i, i < 6 → Cond.eq (.field (smT i) "java/lang/String" "coder" "B") (.int 0) ∈ nrw := by decide +kernel
theorem n_ar : ∀ i, i < 6 → Cond.arrayOf (.field (smT i) "java/lang/String" "value" "[B") .byte ∈ nrw := by decide +kernel
theorem n_le : ∀ i, i < 6 → Cond.eq (.length (.field (smT i) "java/lang/String" "value" "[B")) (.int (Int32.ofNat (ab_len.getD i 0))) ∈ nrw := by decide +kernel
theorem n_el : ∀ i, i < 6 → ∀ j, j < ab_len.getD i 0 → Cond.eq (.elem (.field (smT i) "java/lang/String" "value" "[B") (.int (Int32.ofNat j))) (.int ((ab_byt.getD i []).getD j 0)) ∈ nrw := by decide +kernel
theorem n_ne : ∀ i, i < 6 → ∀ j, j < 6 → i ≠ j → (Cond.not (Cond.eq (smT i) (smT j)) ∈ nrw ∨ Cond.not (Cond.eq (smT j) (smT i)) ∈ nrw) := by decide +kernel
theorem n_ka : ∀ j, j < 6 → Cond.eq (.elem (.static "RoundFigures" "KIND_ABOVE" "[I") (.int (Int32.ofNat j))) (.int (kaV j)) ∈ nrw := by decide +kernel
theorem n_k1 : Cond.arrayOf (.static "RoundFigures" "KIND_ABOVE" "[I") .int ∈ nrw := by decide +kernel
theorem n_k2 : Cond.eq (.length (.static "RoundFigures" "KIND_ABOVE" "[I")) (.int (Int32.ofNat 6)) ∈ nrw := by decide +kernel
theorem n_cs : Cond.eq (.static "java/lang/String" "COMPACT_STRINGS" "Z") (.int 1) ∈ nrw := by decide +kernel
theorem n_pr : Cond.isRef (.static "jdk/internal/util/Preconditions" "SIOOBE_FORMATTER" "Ljava/util/function/BiFunction;") ∈ nrw := by decide +kernel
theorem vk_Sc {N : Nat} {len : List Nat} {byt : List (List Int32)} {aK aV aK' aV' : Nat → Nat} {A : Nat → Prop} {U : State} {H : Heap} (h : vk_S N len byt aK aV A U H) (h1 : ∀ i, i < N → aK' i = aK i) (h2 : ∀ i, i < N → aV' i = aV i) : vk_S N len byt aK' aV' A U H :=
  ⟨fun i hi => by rw [h1 i hi, h2 i hi]; exact h.1 i hi, fun i j hi hj e => h.2 i j hi hj (by rw [← h1 i hi, ← h1 j hj]; exact e)⟩
theorem start_O {s : State} {b L : Nat} {xs : Nat → Int32} {args : Array Value} (hts : ∀ w ∈ lw_tbl, w.before args s = true) (hX : va_X b L xs s s.heap) (hbl : b < s.heap.size) (hL : L ≤ 384) (hgv : (Jvm.Cond.and given_1 narrow_1).before args s = true) : ∃ (G : ab_G) (ol : ab_Ol), G.1 = s.heap.size ∧ G.2.2.2.2 0 = b ∧ (ol 0).1 ≤ 384 ∧ KA ol ∧ ab_O G ol s := by
  have hs : ∀ w ∈ nrw, w.before args s = true := flat_of_before _ hgv
  have hA : ∀ a : Nat, a < s.heap.size → ¬ (fun q : Nat => s.heap.size ≤ q) a := fun a h => Nat.not_le.mpr h
  have k0 : ∀ c : Nat, ∃ q : ClassId × (Nat → Nat), c < 10 → u_Kn s (ab_cl c).1 (ab_cl c).2.1 (ab_cl c).2.2 q.1 q.2 := by
    intro c
    obtain ⟨c0, i0, h0⟩ := u_known (C := (ab_cl 0).1) (T := (ab_cl 0).2.1) (N := (ab_cl 0).2.2) (n := (ab_cl 0).2.2) hts (fun w hw => (List.mem_filter.mp (ab_uw (c := 0) (by decide) w hw)).1) (hts _ (e_in 0 (by decide)))
    by_cases hc : c < 10
    · obtain ⟨cC, iS, h⟩ := u_known (C := (ab_cl c).1) (T := (ab_cl c).2.1) (N := (ab_cl c).2.2) (n := (ab_cl c).2.2) hts (fun w hw => (List.mem_filter.mp (ab_uw hc w hw)).1) (hts _ (e_in c hc))
      exact ⟨(cC, iS), fun _ => h⟩
    · exact ⟨(c0, i0), fun h => absurd h hc⟩
  obtain ⟨cd, hcd⟩ := Classical.axiomOfChoice k0
  obtain ⟨a10, p10⟩ : ∃ cA, ArrOfT s cA .int ∧ va_RA s cA .int := by
    obtain ⟨cA, kA, comp, h1, h2, h3⟩ := Cond.arrayClass_spec (hts _ e_a0)
    exact ⟨cA, fun n z => ⟨fun k h => (by cases h), kA, h2, comp, h3⟩, h1⟩
  obtain ⟨a11, p11⟩ : ∃ cA, ArrOfT s cA .boolean ∧ va_RA s cA .boolean := by
    obtain ⟨cA, kA, comp, h1, h2, h3⟩ := Cond.arrayClass_spec (hts _ e_a1)
    exact ⟨cA, fun n z => ⟨fun k h => (by cases h), kA, h2, comp, h3⟩, h1⟩
  obtain ⟨a12, p12⟩ : ∃ cA, ArrOfT s cA .char ∧ va_RA s cA .char := by
    obtain ⟨cA, kA, comp, h1, h2, h3⟩ := Cond.arrayClass_spec (hts _ e_a2)
    exact ⟨cA, fun n z => ⟨fun k h => (by cases h), kA, h2, comp, h3⟩, h1⟩
  have ob : ∀ C, Cond.arrayOver (.object C) ∈ lw_tbl → ∃ cA, ArrOfT s cA (.object C) ∧ va_RA s cA (.object C) := fun C h => by
    obtain ⟨comp, cA, kA, h1, h2, h3, h4, h5⟩ := Cond.arrayOver_spec (hts _ h)
    exact ⟨cA, fun N z => ⟨fun k h => (by cases h), kA, h3, comp, h4⟩, kA, comp, h3, h4, h1, h5⟩
  obtain ⟨a23, p23⟩ := ob RX3 (e_ao 0 (by decide))
  obtain ⟨a24, p24⟩ := ob RX4 (e_ao 1 (by decide))
  obtain ⟨a25, p25⟩ := ob RX5 (e_ao 2 (by decide))
  obtain ⟨a26, p26⟩ := ob RX6 (e_ao 3 (by decide))
  obtain ⟨t, ht, hT⟩ := va_Tof (f := fun j => .int (kaV j)) (A := fun q : Nat => s.heap.size ≤ q) (N := 6) (by decide) (hs _ n_k1) (va_eqt (hs _ n_k2)) (fun j hj => va_eqt (hs _ (n_ka j hj))) hA
  obtain ⟨aK, aV, hS, hE⟩ := vk_Sof (N := 6) (tm := smT) (len := ab_len) (byt := ab_byt) (A := fun q : Nat => s.heap.size ≤ q) (by decide +kernel) (fun i hi => hs _ (n_ex i hi)) (fun i hi => hs _ (n_co i hi)) (fun i hi => hs _ (n_ar i hi)) (fun i hi => hs _ (n_le i hi)) (fun i hi j hj => hs _ (n_el i hi j hj)) (fun i j hi hj hij => by
    rcases n_ne i hi j hj hij with h | h
    · exact Or.inl (hs _ h)
    · exact Or.inr (hs _ h)) hA
  have q1 : ∀ i, i < 6 → smO b t aK aV (2 + i) = aK i := fun i hi => by
    unfold smO
    rw [if_neg (by omega), if_neg (by omega), if_pos (by omega), show 2 + i - 2 = i by omega]
  have q2 : ∀ i, i < 6 → smO b t aK aV (8 + i) = aV i := fun i hi => by
    unfold smO
    rw [if_neg (by omega), if_neg (by omega), if_neg (by omega), show 8 + i - 8 = i by omega]
  have hK : va_K (fun c => (cd c).1, fun c => (cd c).2) vwCl [(a10, .int), (a11, .boolean), (a12, .char), (a23, .object RX3), (a24, .object RX4), (a25, .object RX5), (a26, .object RX6)] s := by
    refine ⟨fun c q hq => ?_, fun k q hq => ?_⟩
    · have hc : c < 10 := (List.getElem?_eq_some_iff.mp hq).1
      rw [ab_cl_at hc] at hq
      cases hq
      exact hcd c hc
    · have hk : k < 7 := (List.getElem?_eq_some_iff.mp hq).1
      have : k = 0 ∨ k = 1 ∨ k = 2 ∨ k = 3 ∨ k = 4 ∨ k = 5 ∨ k = 6 := by omega
      rcases this with rfl | rfl | rfl | rfl | rfl | rfl | rfl <;> cases hq
      · exact p10
      · exact p11
      · exact p12
      · exact p23
      · exact p24
      · exact p25
      · exact p26
  have hT0 : va_T .int b L (fun j => .int (xs j)) (fun q : Nat => s.heap.size ≤ q) s s.heap := by
    obtain ⟨scr, h1, h2, h3, h4, h5⟩ := hX
    exact ⟨scr, h1, h2, h3, Nat.le_of_eq h4.symm, by rw [h4], h5, hA b hbl⟩
  refine ⟨(s.heap.size, fun c => (cd c).1, fun c => (cd c).2, fun k => if k = 10 then a10 else if k = 11 then a11 else if k = 12 then a12 else if k = 23 then a23 else if k = 24 then a24 else if k = 25 then a25 else a26, smO b t aK aV), fun k => if k = 0 then (L, xs) else (6, kaV), rfl, rfl, hL, ⟨rfl, rfl, rfl, rfl, rfl, rfl, rfl⟩, hK, fun q hq => va_Nw.of rfl (hts _ (e_nst q hq)), va_Nw.of rfl (hts _ e_fl), fun c hc => ?_, fun k hk => ?_, va_Zref (hts _ e_s1.1) (hts _ e_s1.2) ht hA, vk_Sc hS q1 q2, fun i hi => ?_, va_Zof (hts _ e_s2.1) (hts _ e_s2.2) (va_eqt (hs _ n_cs)) hA, va_Zqof (hts _ e_s3.1) (hts _ e_s3.2) (hs _ n_pr) hA⟩
  · rcases hc with rfl | rfl | rfl | rfl
    · exact va_AO.of (hts _ (e_ao 0 (by decide)))
    · exact va_AO.of (hts _ (e_ao 1 (by decide)))
    · exact va_AO.of (hts _ (e_ao 2 (by decide)))
    · exact va_AO.of (hts _ (e_ao 3 (by decide)))
  · have : k = 0 ∨ k = 1 := by omega
    rcases this with rfl | rfl
    · exact hT0
    · exact hT
  · show vk_R _ _ _ (smO b t aK aV (2 + i)) s
    rw [q1 i hi]
    exact vk_R.of (hts _ (e_sr i hi)) (hE i hi)
theorem whole_open {p : Program} {e : Env} {s : State} {m : MethodId} {below : List Frame} {meth : Method} {c : Code} (l : Launch) {b L : Nat} {xs : Nat → Int32} (hL : L ≤ 384) (C0 : lw_At p s m meth c b L xs) (hnm : meth.name = x.name) (hT : ∀ (G : ab_G) (ol : ab_Ol) (sh : ab_S) (rf : ab_R) (mem : ab_N) (nx : Nat), Inv sh rf mem nx → nx ≤ 400 → JT l G ol sh rf mem nx) : W p l e room_1 s m #[Value.ref b] below meth c s.heap [] 0 0 (lw_Z below #[Value.ref b] s) (entryFrame m ([Value.ref b] : List Value).toArray 4) := by
  obtain ⟨hx, hb, hr, hml, hown, hts, hX, hbl, hlocks, hgv⟩ := id C0
  obtain ⟨G, ol, g1, g2, hL', hKA, hO⟩ := start_O hts hX hbl hL hgv
  have eb : ab_cv G (.ref ab_old) = .ref b := by
    show Value.ref (ab_loc G ab_old) = _
    unfold ab_loc
    rw [if_neg (Nat.lt_irrefl _), Nat.sub_self, g2]
  have hlv := ab_lv0 (G := G) (as := [.ref ab_old]) (n := 4) rfl (by decide)
  rw [List.map_cons, eb, List.map_nil] at hlv
  have hgo := law_go (l := l) (G := G) (ol := ol) (Rt := fun r _ _ _ _ _ _ => r = some (.int 1)) (u1 := .retAddr 0) (u2 := .retAddr 0) (u3 := .retAddr 0) hKA hL' (hT G ol) (fun _ _ _ _ _ _ => rfl)
  rw [lg_entry_eq]
  refine hgo p e room_1 s m #[Value.ref b] below meth c _ ⟨hx, hb, hml, hown, fun w hw => hts w (List.mem_filter.mp hw).1, hO, by rw [g1]; exact Nat.le_refl _, by decide, by decide, ⟨rfl, rfl⟩, hnm⟩ ?_ s.heap [] _ ⟨Nat.zero_le _, by rw [g1]; rfl, fun k q h => by simp [ab_wsl] at h⟩ va_S.rf hlv (Nat.zero_le _) (Nat.zero_le _)
  intro pc i r sh rf mem nx cu su H locs ls hK hd hrk hR hS hcu hsu
  subst hK
  refine W.widen (k := 600000) (n := 7302250) hcu hsu (va_forget (fun q hq => ?_) ?_)
  · have := hS.2.2 q hq
    rw [← g1]
    exact this
  · rcases hrk with ⟨rfl, y, hy, _⟩ | ⟨rfl, h1, y, hy⟩ | ⟨rfl, h1, y, hy⟩ | ⟨rfl, h1, hy⟩
    · exact lw_ret hx hb hr hlocks hd
    · cases hy
    · cases hy
    · cases hy
