/-! CLASS: the reader's words and parts -/
def numF (tp : Row) (s : Nat) : Nat → Int32
  | 0 => 0
  | n + 1 => numF tp s n * 10 + tp (s + n) - 48
def nm (key : Nat) (c : Int32) : Int32 := if key = 0 then (if c = 110 then 0 else if c = 120 then 1 else if c = 100 then 2 else -1) else if key = 1 then (if c = 112 then 0 else if c = 108 then 1 else -1) else (if c = 115 then 0 else if c = 99 then 1 else -1)
def prt (tp : Row) (L key s : Nat) : Option Int32 := if nbl tp L s ∧ srt tp L s ≠ 3 then none else if srt tp L s = 2 then (if en tp L s - s ≤ 4 then some (numF tp s (en tp L s - s)) else none) else if srt tp L s = 1 then (if en tp L s - s = 1 ∧ 0 ≤ nm key (tp s) then some (10000 + nm key (tp s)) else none) else none
def isW (tp : Row) (s e i : Nat) : Prop := e - s = ab_len.getD i 0 ∧ ∀ k, k < ab_len.getD i 0 → tp (s + k) = chJ i k
theorem nm_ix0 : ∀ q, q < 256 → ixJ 3 q = nm 0 (nI q) := by decide +kernel
theorem nm_ix1 : ∀ q, q < 256 → ixJ 4 q = nm 1 (nI q) := by decide +kernel
theorem nm_ix2 : ∀ q, q < 256 → ixJ 5 q = nm 2 (nI q) := by decide +kernel
theorem c16 : ∀ q, q < 256 → (Int32.toUInt32 (nI q) % 65536).toInt32 = nI q := by decide +kernel
/-- digits make a number -/
theorem dig_of {tp : Row} {L k : Nat} (ht : ∃ q, q < 256 ∧ tp k = nI q) (h : srt tp L k = 2) : ∃ q, q < 10 ∧ tp k = nI (48 + q) := by
  obtain ⟨q, hq, e⟩ := ht
  unfold srt at h
  split at h
  · omega
  · split at h
    · omega
    · split at h
      · rename_i h3
        rw [e] at h3
        have a1 : 48 ≤ q := by
          rcases Nat.lt_or_ge q 48 with z | z
          · exact absurd h3.1 (nI_ge z (by decide))
          · exact z
        have a2 : q ≤ 57 := by
          rcases Nat.lt_or_ge 57 q with z | z
          · exact absurd h3.2 (nI_ge z (by omega))
          · exact z
        exact ⟨q - 48, by omega, by rw [e, show 48 + (q - 48) = q by omega]⟩
      · omega
theorem numF_rg {tp : Row} {L s : Nat} (ht : ∀ j, ∃ q, q < 256 ∧ tp j = nI q) : ∀ n, n ≤ 4 → (∀ j, j < n → srt tp L (s + j) = 2) → ∃ v, v < 10 ^ n ∧ numF tp s n = nI v
  | 0, _, _ => ⟨0, by decide, rfl⟩
  | n + 1, hn, h => by
    obtain ⟨v, hv, e⟩ := numF_rg ht n (by omega) (fun j hj => h j (by omega))
    obtain ⟨q, hq, eq⟩ := dig_of (ht (s + n)) (h n (by omega))
    refine ⟨10 * v + q, ?_, ?_⟩
    · rw [Nat.pow_succ]; omega
    · rw [numF, e, eq, show nI v * 10 = nI (v * 10) from pk_mul v 10, nI_add, show nI (v * 10 + (48 + q)) - 48 = nI (v * 10 + (48 + q) - 48) from pk_sub (b := 48) (by omega)]
      congr 1; omega
theorem prt_rg {tp : Row} {L key s : Nat} {v : Int32} (ht : ∀ j, ∃ q, q < 256 ∧ tp j = nI q) (h : prt tp L key s = some v) : ((∃ n, n < 10000 ∧ v = nI n) ∨ (∃ n, n < 3 ∧ v = nI (10000 + n) ∧ (key ≠ 0 → n < 2))) ∧ srt tp L s ≠ 0 ∧ srt tp L s ≠ 3 := by
  unfold prt at h
  split at h
  · cases h
  · split at h
    · rename_i h1 h2
      split at h
      · rename_i h3
        cases h
        refine ⟨Or.inl ?_, by omega, by omega⟩
        have ee : en tp L s = wen tp L 2 s := by unfold en; rw [if_neg (by omega), if_neg (by omega), h2]
        obtain ⟨w, hw, e⟩ := numF_rg (L := L) (s := s) ht (en tp L s - s) h3 (fun j hj => wen_in (r := 2) (k := s) _ (by omega) (by rw [← ee]; omega))
        refine ⟨w, ?_, e⟩
        exact Nat.lt_of_lt_of_le hw (Nat.pow_le_pow_right (by decide) h3)
      · cases h
    · split at h
      · rename_i h1 h2 h3
        split at h
        · rename_i h4
          cases h
          refine ⟨Or.inr ?_, by omega, by omega⟩
          have h5 := h4.2
          unfold nm at h5 ⊢
          split
          · rename_i k0
            rw [if_pos k0] at h5
            split
            · exact ⟨0, by decide, by decide, fun z => absurd k0 z⟩
            · split
              · exact ⟨1, by decide, by decide, fun z => absurd k0 z⟩
              · split
                · exact ⟨2, by decide, by decide, fun z => absurd k0 z⟩
                · rename_i a b c
                  rw [if_neg a, if_neg b, if_neg c] at h5
                  exact absurd h5 (by decide)
          · rename_i k0
            rw [if_neg k0] at h5
            split
            · rename_i k1
              rw [if_pos k1] at h5
              split
              · exact ⟨0, by decide, by decide, fun _ => by decide⟩
              · split
                · exact ⟨1, by decide, by decide, fun _ => by decide⟩
                · rename_i a b
                  rw [if_neg a, if_neg b] at h5
                  exact absurd h5 (by decide)
            · rename_i k1
              rw [if_neg k1] at h5
              split
              · exact ⟨0, by decide, by decide, fun _ => by decide⟩
              · split
                · exact ⟨1, by decide, by decide, fun _ => by decide⟩
                · rename_i a b
                  rw [if_neg a, if_neg b] at h5
                  exact absurd h5 (by decide)
        · cases h
      · cases h
section RW2
variable {l : Launch} {G : ab_G} {ol : ab_Ol} {d : Nat} {sh : ab_S} {rf : ab_R} {mem : ab_N} {nx : Nat} {K : ab_K}
theorem r_numberHere (hS : St sh rf nx) {L s : Nat} (hL : L ≤ 96) (hs : s ≤ L) (hR : RS mem (mem 62) L s) (h1 : en (mem 62) L s - s ≤ 4 → K (some (.int (numF (mem 62) s (en (mem 62) L s - s)))) sh rf mem nx) (h0 : ¬ en (mem 62) L s - s ≤ 4 → K (some (.int (-1))) sh rf mem nx) : ab_Cx l G ol (d + 1) mRe_numberHere [.ref 63] sh rf mem nx K := by
  obtain ⟨m5, m6, m7⟩ := hR
  have i := r_is hS
  have hg := en_ge (tp := mem 62) (L := L) s
  have he := en_le (tp := mem 62) (L := L) hs
  generalize en (mem 62) L s = e at *
  have es : nI e - nI s = nI (e - s) := pk_sub hg
  refine e_mRe_numberHere ⟨i, i, fun q => ⟨i, ?_⟩, fun q => ⟨trivial, h0 fun z => q ?_⟩⟩
  · rw [m6, m5, es] at q
    have q4 : e - s ≤ 4 := by
      rcases Nat.lt_or_ge 4 (e - s) with z | z
      · exact absurd q (nI_ge z (by omega))
      · exact z
    suffices loop : ∀ n j, j + n = e → s ≤ j → ab_Go l G ol d mRe_numberHere (ab_mc mRe_numberHere) (ab_ms mRe_numberHere) (fun r sh rf mem nx _ _ => K r sh rf mem nx) 22 [.ref 63, .int (numF (mem 62) s (j - s)), .int (nI j)] [] sh rf mem nx 0 0 by
      have := loop (e - s) s (by omega) (Nat.le_refl _)
      rw [Nat.sub_self] at this
      rw [m5]
      exact this
    intro n
    induction n with
    | zero =>
      intro j hj hsj
      have : j = e := by omega
      subst this
      exact h_mRe_numberHere_22 ⟨i, fun _ => ⟨trivial, h1 q4⟩, fun z => absurd (by rw [m6]; exact Int32.le_refl _) z⟩
    | succ n ih =>
      intro j hj hsj
      refine h_mRe_numberHere_22 ⟨i, fun z => absurd z (by rw [m6]; exact nI_ge (by omega) (by omega)), fun _ => ⟨i, r_tp hS (by omega) ?_⟩⟩
      rw [cl_nI (by omega), nI_1]
      have := ih (j + 1) (by omega) (by omega)
      rw [show j + 1 - s = (j - s) + 1 by omega, numF, show s + (j - s) = j by omega] at this
      exact this
  · rw [m6, m5, es]
    exact nI_le (b := 4) z (by decide)
theorem r_isWord (hS : St sh rf nx) {L s i : Nat} (hi : i < 6) (hL : L ≤ 96) (hs : s ≤ L) (hR : RS mem (mem 62) L s) (h1 : isW (mem 62) s (en (mem 62) L s) i → K (some (.int 1)) sh rf mem nx) (h0 : ¬ isW (mem 62) s (en (mem 62) L s) i → K (some (.int 0)) sh rf mem nx) : ab_Cx l G ol (d + 5) mRe_isWord [.ref 63, .ref (ab_old + 2 + i)] sh rf mem nx K := by
  obtain ⟨m5, m6, m7⟩ := hR
  have is := r_is hS
  have hg := en_ge (tp := mem 62) (L := L) s
  have he := en_le (tp := mem 62) (L := L) hs
  generalize en (mem 62) L s = e at *
  have es : nI e - nI s = nI (e - s) := pk_sub hg
  have hl4 := len_lt i hi
  have o1 : ab_old + 2 ≤ ab_old + 2 + i := by omega
  have o2 : ab_old + 2 + i < ab_old + 8 := by omega
  refine e_mRe_isWord ⟨is, is, o1, o2, s_length (d := d + 2) hi ⟨_, rfl, fun q => ?_, fun q => ⟨Or.inl rfl, h0 fun z => q ?_⟩⟩⟩
  · rw [m6, m5, es] at q
    have el : e - s = ab_len.getD i 0 := (ixe_iff (by omega) (by omega)).mp q
    suffices loop : ∀ n j, j + n = ab_len.getD i 0 → (∀ k, k < j → mem 62 (s + k) = chJ i k) → ab_Go l G ol (d + 4) mRe_isWord (ab_mc mRe_isWord) (ab_ms mRe_isWord) (fun r sh rf mem nx _ _ => K r sh rf mem nx) 20 [.ref 63, .ref (ab_old + 2 + i), .int (nI j)] [] sh rf mem nx 0 0 from loop (ab_len.getD i 0) 0 (Nat.zero_add _) (fun k hk => absurd hk (by omega))
    intro n
    induction n with
    | zero =>
      intro j hj hp
      have ej : j = ab_len.getD i 0 := by omega
      refine h_mRe_isWord_20 ⟨o1, o2, s_length (d := d + 2) hi ⟨_, rfl, fun _ => ⟨Or.inr rfl, h1 ⟨el, by rw [← ej]; exact hp⟩⟩, fun z => absurd (by rw [ej]; exact Int32.le_refl _) z⟩⟩
    | succ n ih =>
      intro j hj hp
      refine h_mRe_isWord_20 ⟨o1, o2, s_length (d := d + 2) hi ⟨_, rfl, fun z => absurd z (nI_ge (by omega) (by omega)), fun _ => ⟨is, ?_⟩⟩⟩
      refine rd_of hS rfl rfl ⟨is, is_of hS rfl rfl, ?_⟩
      rw [m5, nI_add, cl_nI (by omega)]
      refine ⟨in_of (n := 96) hS rfl rfl (vp_in_nI (by omega) (by decide)), o1, o2, s_charAt (d := d) hi (by omega) ⟨_, rfl, fun z => ?_, fun z => ⟨Or.inl rfl, h0 fun w => z (w.2 j (by omega))⟩⟩⟩
      rw [nI_1]
      exact ih (j + 1) (by omega) (fun k hk => by
        by_cases c : k = j
        · subst c; exact z
        · exact hp k (by omega))
  · rw [m6, m5, es, z.1]
theorem r_keyHere (hS : St sh rf nx) {L s : Nat} (hL : L ≤ 96) (hs : s ≤ L) (hR : RS mem (mem 62) L s) (h1 : ∀ w, w < 3 → srt (mem 62) L s = 1 → isW (mem 62) s (en (mem 62) L s) w → (∀ v, v < w → ¬ isW (mem 62) s (en (mem 62) L s) v) → K (some (.int (nI w))) sh rf mem nx) (h0 : ¬ (srt (mem 62) L s = 1 ∧ ∃ w, w < 3 ∧ isW (mem 62) s (en (mem 62) L s) w) → K (some (.int (-1))) sh rf mem nx) : ab_Cx l G ol (d + 6) mRe_keyHere [.ref 63] sh rf mem nx K := by
  have hR' := hR
  obtain ⟨m5, m6, m7⟩ := hR
  have i := r_is hS
  have hb := srt_le (tp := mem 62) (L := L) s
  refine e_mRe_keyHere ⟨i, fun q => ⟨i, ?_⟩, fun q => ⟨trivial, h0 fun z => q (by rw [m7, z.1]; rfl)⟩⟩
  rw [m7] at q
  have s1 : srt (mem 62) L s = 1 := (ixe_iff (by omega) (by decide)).mp q
  refine r_isWord (d := d) (i := 0) hS (by decide) hL hs hR' (fun w0 => ⟨_, rfl, fun z => absurd z (by decide), fun _ => ⟨trivial, h1 0 (by decide) s1 w0 (fun v hv => absurd hv (by omega))⟩⟩) (fun w0 => ⟨_, rfl, fun _ => ⟨i, ?_⟩, fun z => absurd rfl z⟩)
  refine r_isWord (d := d) (i := 1) hS (by decide) hL hs hR' (fun w1 => ⟨_, rfl, fun z => absurd z (by decide), fun _ => ⟨trivial, h1 1 (by decide) s1 w1 (fun v hv => by rw [show v = 0 by omega]; exact w0)⟩⟩) (fun w1 => ⟨_, rfl, fun _ => ⟨i, ?_⟩, fun z => absurd rfl z⟩)
  refine r_isWord (d := d) (i := 2) hS (by decide) hL hs hR' (fun w2 => ⟨_, rfl, fun z => absurd z (by decide), fun _ => ⟨trivial, h1 2 (by decide) s1 w2 (fun v hv => ?_)⟩⟩) (fun w2 => ⟨_, rfl, fun _ => ⟨trivial, h0 fun z => ?_⟩, fun z => absurd rfl z⟩)
  · have : v = 0 ∨ v = 1 := by omega
    rcases this with rfl | rfl
    · exact w0
    · exact w1
  · obtain ⟨_, w, hw, z⟩ := z
    have : w = 0 ∨ w = 1 ∨ w = 2 := by omega
    rcases this with rfl | rfl | rfl
    · exact w0 z
    · exact w1 z
    · exact w2 z
theorem r_nameHere (hS : St sh rf nx) {L s key : Nat} (hL : L ≤ 96) (hs : s < L) (hk : key < 3) (h8 : mem 63 8 = nI key) (ht : ∀ j, ∃ q, q < 256 ∧ mem 62 j = nI q) (hR : RS mem (mem 62) L s) (h1 : en (mem 62) L s - s = 1 → 0 ≤ nm key (mem 62 s) → K (some (.int (10000 + nm key (mem 62 s)))) sh rf mem nx) (h0 : ¬ (en (mem 62) L s - s = 1 ∧ 0 ≤ nm key (mem 62 s)) → K (some (.int (-1))) sh rf mem nx) : ab_Cx l G ol (d + 5) mRe_nameHere [.ref 63] sh rf mem nx K := by
  obtain ⟨m5, m6, m7⟩ := hR
  have i := r_is hS
  have hg := en_ge (tp := mem 62) (L := L) s
  have he := en_le (tp := mem 62) (L := L) (Nat.le_of_lt hs)
  generalize en (mem 62) L s = e at *
  have es : mem 63 6 - mem 63 5 = nI (e - s) := by rw [m6, m5]; exact pk_sub hg
  obtain ⟨q, hq, eq⟩ := ht s
  rw [eq] at h1 h0
  have no : ¬ mem 63 6 - mem 63 5 = 1 → ((0 : Int32) ≤ (-1 : Int32) → True ∧ K (some (.int ((10000 : Int32) + (-1 : Int32)))) sh rf mem nx) ∧ (¬ (0 : Int32) ≤ (-1 : Int32) → True ∧ K (some (.int (-1 : Int32))) sh rf mem nx) := fun z => ⟨fun w => absurd w (by decide), fun _ => ⟨trivial, h0 fun w => z (by rw [es, w.1]; rfl)⟩⟩
  have yes : ∀ j, j < 3 → ixJ (3 + j) q = nm key (nI q) → mem 63 6 - mem 63 5 = 1 → (ab_rd (rf 63 0) fun b1 => ab_is sh nx 63 2 ∧ (ab_is sh nx b1 10 ∧ vp_in (mem 63 5) (sh b1).2 ∧ (ab_old + 2 ≤ (ab_old + 2 + (3 + j)) ∧ (ab_old + 2 + (3 + j)) < ab_old + 8 ∧ ab_Cx l G ol (d + 4) mSt_indexOf [.ref (ab_old + 2 + (3 + j)), .int ((Int32.toUInt32 (mem b1 (Int32.toNatClampNeg (mem 63 5))) % 65536).toInt32)] sh rf mem nx (fun r2 sh2 rf2 mem2 nx2 => ∃ x2, r2 = some (.int x2) ∧ (((0 : Int32) ≤ x2 → True ∧ K (some (.int ((10000 : Int32) + x2))) sh2 rf2 mem2 nx2) ∧ (¬ (0 : Int32) ≤ x2 → True ∧ K (some (.int (-1 : Int32))) sh2 rf2 mem2 nx2)))))) := by
    intro j hj ej z
    rw [es] at z
    have z1 : e - s = 1 := (ixe_iff (by omega) (by decide)).mp z
    refine rd_of hS rfl rfl ⟨i, is_of hS rfl rfl, in_of (n := 96) hS rfl rfl (by rw [m5]; exact vp_in_nI (by omega) (by decide)), by omega, by omega, ?_⟩
    rw [m5, cl_nI (by omega), eq, c16 q hq]
    refine s_indexOf (by omega) hq ⟨_, rfl, fun w => ⟨trivial, ?_⟩, fun w => ⟨trivial, h0 fun u => ?_⟩⟩
    · rw [ej] at w ⊢; exact h1 z1 w
    · rw [ej] at w; exact w u.2
  refine e_mRe_nameHere ⟨i, fun a => ⟨i, fun b => ⟨i, i, no, fun z => ⟨i, ?_⟩⟩, fun b => ⟨i, i, no, fun z => ⟨i, ?_⟩⟩⟩, fun a => ⟨i, i, no, fun z => ⟨i, ?_⟩⟩⟩
  · have k2 : key = 2 := by
      rcases (show key = 0 ∨ key = 1 ∨ key = 2 by omega) with rfl | rfl | rfl
      · exact absurd h8 a
      · exact absurd h8 b
      · rfl
    subst k2
    exact yes 2 (by decide) (nm_ix2 q hq) z
  · rw [h8] at b
    have k1 : key = 1 := (ixe_iff (by omega) (by decide)).mp b
    subst k1
    exact yes 1 (by decide) (nm_ix1 q hq) z
  · rw [h8] at a
    have k0 : key = 0 := (ixe_iff (by omega) (by decide)).mp a
    subst k0
    exact yes 0 (by decide) (nm_ix0 q hq) z
/-- the reader at a word or sign, with what it has put -/
def RC (mem : ab_N) (cd : List Int32) : Prop := mem 63 2 = nI cd.length ∧ ∀ k, k < cd.length → mem 64 k = cd.getD k 0
def FR (mem mem' : ab_N) : Prop := (∀ a, a ≠ 63 → a ≠ 64 → mem' a = mem a) ∧ mem' 63 4 = mem 63 4 ∧ mem' 63 8 = mem 63 8
/-- what holds all the time while a text is read -/
def RE (tp : Row) (L key : Nat) (mem : ab_N) : Prop := mem 62 = tp ∧ mem 63 4 = nI L ∧ mem 63 8 = nI key ∧ L ≤ 96 ∧ key < 3 ∧ ∀ j, ∃ q, q < 256 ∧ tp j = nI q
def RM (tp : Row) (L key : Nat) (mem0 mem : ab_N) (s : Nat) (cd : List Int32) (at' : Nat) : Prop := RE tp L key mem0 ∧ FR mem0 mem ∧ RS mem tp L s ∧ s ≤ L ∧ RC mem cd ∧ mem 63 3 = nI at'
theorem RM.e {tp : Row} {L key s at' : Nat} {mem0 : ab_N} {cd : List Int32} (h : RM tp L key mem0 mem s cd at') : RE tp L key mem := by
  obtain ⟨⟨e1, e2, e3, e4, e5, e6⟩, ⟨f1, f2, f3⟩, _⟩ := h
  exact ⟨(f1 62 (by decide) (by decide)).trans e1, f2.trans e2, f3.trans e3, e4, e5, e6⟩
theorem RC.put {cd : List Int32} {v : Int32} (h : RC mem cd) : RC (ab_w (ab_w mem 64 cd.length v) 63 2 (nI (cd.length + 1))) (cd ++ [v]) := by
  refine ⟨by rw [w_eq]; simp, fun k hk => ?_⟩
  rw [ab_w_ne _ _ _ (by decide)]
  by_cases c : k = cd.length
  · subst c; rw [w_eq]; simp
  · rw [w_ne _ _ (Or.inr c)]
    have hk' : k < cd.length := by simp at hk; omega
    rw [h.2 k hk']
    simp [List.getElem?_append_left hk']
theorem r_readPart (hS : St sh rf nx) {tp : Row} {L key s at' : Nat} {mem0 : ab_N} {cd : List Int32} (hM : RM tp L key mem0 mem s cd at') (hc : cd.length < 96) (h1 : ∀ v mem', prt tp L key s = some v → RM tp L key mem0 mem' (nxt tp L s) (cd ++ [v]) (at' + 1) → K (some (.int 1)) sh rf mem' nx) (h0 : prt tp L key s = none → K (some (.int 0)) sh rf mem nx) : ab_Cx l G ol (d + 6) mRe_readPart [.ref 63] sh rf mem nx K := by
  have hM' := hM
  obtain ⟨e1, e2, e3, e4, e5, e6⟩ := RM.e hM
  obtain ⟨hE, hF, hR, hs, hC, hP⟩ := hM
  have hR' := hR
  obtain ⟨m5, m6, m7⟩ := hR
  have i := r_is hS
  subst e1
  have hb := srt_le (tp := mem 62) (L := L) s
  have no : prt (mem 62) L key s = none → (((0 : Int32) = 0 ∨ (0 : Int32) = 1) ∧ K (some (.int (0 : Int32))) sh rf mem nx) := fun z => ⟨Or.inl rfl, h0 z⟩
  have yes : ∀ v, prt (mem 62) L key s = some v → srt (mem 62) L s ≠ 0 → ab_Cx l G ol (d + 5) mRe_put [.ref 63, .int v] sh rf mem nx (fun r2 sh2 rf2 mem2 nx2 => r2 = none ∧ (ab_is sh2 nx2 63 2 ∧ (ab_is sh2 nx2 63 2 ∧ (let mem3 := ab_w mem2 63 3 ((mem2 63 3) + (1 : Int32)); ab_is sh2 nx2 63 2 ∧ ab_Cx l G ol (d + 5) mRe_step [.ref 63] sh2 rf2 mem3 nx2 (fun r4 sh4 rf4 mem4 nx4 => r4 = none ∧ (((1 : Int32) = 0 ∨ (1 : Int32) = 1) ∧ K (some (.int (1 : Int32))) sh4 rf4 mem4 nx4)))))) := by
    intro v hv s0
    refine r_put (d := d + 4) hS hC.1 (by omega) (fun _ => ⟨rfl, i, i, i, ?_⟩) (fun z => by omega)
    have hC2 := hC.put (v := v)
    generalize hm : ab_w (ab_w mem 64 cd.length v) 63 2 (nI (cd.length + 1)) = mem2 at hC2 ⊢
    have o : ∀ a, a ≠ 63 → a ≠ 64 → mem2 a = mem a := fun a a1 a2 => by rw [← hm, ab_w_ne _ _ _ a1, ab_w_ne _ _ _ a2]
    have o3 : ∀ j, j ≠ 2 → mem2 63 j = mem 63 j := fun j hj => by rw [← hm, w_ne _ _ (Or.inr hj), ab_w_ne _ _ _ (by decide)]
    rw [o3 3 (by decide), hP, nI_1]
    have p4 : (ab_w mem2 63 3 (nI (at' + 1))) 63 4 = nI L := by rw [w_ne _ _ (Or.inr (by decide)), o3 4 (by decide)]; exact e2
    have p62 : (ab_w mem2 63 3 (nI (at' + 1))) 62 = mem 62 := by rw [ab_w_ne _ _ _ (by decide)]; exact o 62 (by decide) (by decide)
    refine r_step (d := d + 3) (k := en (mem 62) L s) hS e4 (en_le hs) p4 (by rw [w_ne _ _ (Or.inr (by decide)), o3 6 (by decide)]; exact m6) (fun mem' F1 F2 hR2 => ⟨rfl, Or.inr rfl, h1 v mem' hv ⟨hE, ⟨fun a a1 a2 => ?_, ?_, ?_⟩, ?_, nxt_le hs, ⟨?_, fun k hk => ?_⟩, ?_⟩⟩)
    · rw [F1 a a1, ab_w_ne _ _ _ a1, o a a1 a2]; exact hF.1 a a1 a2
    · rw [F2 4 (by decide) (by decide) (by decide), p4, ← e2]; exact hF.2.1
    · rw [F2 8 (by decide) (by decide) (by decide), w_ne _ _ (Or.inr (by decide)), o3 8 (by decide)]; exact hF.2.2
    · rw [p62] at hR2; exact hR2
    · rw [F2 2 (by decide) (by decide) (by decide), w_ne _ _ (Or.inr (by decide))]; exact hC2.1
    · rw [F1 64 (by decide), ab_w_ne _ _ _ (by decide)]; exact hC2.2 k hk
    · rw [F2 3 (by decide) (by decide) (by decide), w_eq]
  refine e_mRe_readPart ⟨i, r_needsBlank (d := d + 3) hS e4 hs e2 hR' (fun z1 z2 => ⟨_, rfl, fun z => absurd z (by decide), fun _ => no (by unfold prt; rw [if_pos ⟨z1, z2⟩])⟩) (fun z0 => ⟨_, rfl, fun _ => ⟨i, fun a => ⟨i, fun b => ⟨fun w => absurd w (by decide), fun _ => no ?_⟩, fun b => ⟨i, ?_⟩⟩, fun a => ⟨i, ?_⟩⟩, fun z => absurd rfl z⟩)⟩
  · unfold prt
    rw [if_neg z0, if_neg (fun z => a (by rw [m7, z]; rfl)), if_neg (fun z => b (by rw [m7, z]; rfl))]
  · rw [m7] at b
    have s1 : srt (mem 62) L s = 1 := (ixe_iff (by omega) (by decide)).mp b
    have ep : prt (mem 62) L key s = if en (mem 62) L s - s = 1 ∧ 0 ≤ nm key (mem 62 s) then some (10000 + nm key (mem 62 s)) else none := by
      unfold prt
      rw [if_neg z0, if_neg (by omega), if_pos s1]
    refine r_nameHere (d := d) hS e4 (srt_lt (tp := mem 62) (k := s) (by omega)) e5 e3 e6 hR' (fun y1 y2 => ⟨_, rfl, fun w => ⟨i, ?_⟩, fun w => ?_⟩) (fun y => ⟨_, rfl, fun w => absurd w (by decide), fun _ => no (by rw [ep, if_neg y])⟩)
    · rw [if_pos ⟨y1, y2⟩] at ep
      exact yes _ ep (by omega)
    · rw [if_pos ⟨y1, y2⟩] at ep
      obtain ⟨r1, _⟩ := prt_rg e6 ep
      exfalso
      apply w
      rcases r1 with ⟨n, hn, r⟩ | ⟨n, hn, r, _⟩
      · rw [r]; exact nI_pos' (by omega)
      · rw [r]; exact nI_pos' (by omega)
  · rw [m7] at a
    have s2 : srt (mem 62) L s = 2 := (ixe_iff (by omega) (by decide)).mp a
    have ep : prt (mem 62) L key s = if en (mem 62) L s - s ≤ 4 then some (numF (mem 62) s (en (mem 62) L s - s)) else none := by
      unfold prt
      rw [if_neg z0, if_pos s2]
    refine r_numberHere (d := d + 4) hS e4 hs hR' (fun y => ⟨_, rfl, fun w => ⟨i, ?_⟩, fun w => ?_⟩) (fun y => ⟨_, rfl, fun w => absurd w (by decide), fun _ => no (by rw [ep, if_neg y])⟩)
    · rw [if_pos y] at ep
      exact yes _ ep (by omega)
    · rw [if_pos y] at ep
      obtain ⟨r1, _⟩ := prt_rg e6 ep
      exfalso
      apply w
      rcases r1 with ⟨n, hn, r⟩ | ⟨n, hn, r, _⟩
      · rw [r]; exact nI_pos' (by omega)
      · rw [r]; exact nI_pos' (by omega)
end RW2
