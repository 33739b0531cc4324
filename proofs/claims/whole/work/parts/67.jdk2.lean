/-! THE JDK'S STRINGS, on: indexOf; then the three contracts of the small machine -/
def ixF (b : Int32) : List Int32 → Nat → Int32
  | [], _ => -1
  | x :: xs, k => if x = b then nI k else ixF b xs (k + 1)
def ixJ (i q : Nat) : Int32 := ixF (nI q).toInt8.toInt32 (ab_byt.getD i []) 0
theorem byt_len : ∀ i, i < 6 → (ab_byt.getD i []).length = ab_len.getD i 0 := by decide +kernel
theorem getD_drop {l : List Int32} {x : Int32} {xs : List Int32} {j : Nat} (h : l.drop j = x :: xs) : j < l.length ∧ l.getD j 0 = x ∧ l.drop (j + 1) = xs := by
  have hj : j < l.length := by
    rcases Nat.lt_or_ge j l.length with g | g
    · exact g
    · rw [List.drop_eq_nil_of_le g] at h; cases h
  refine ⟨hj, ?_, ?_⟩
  · have := congrArg (fun l => l.getD 0 0) h
    simpa [List.getD_eq_getElem?_getD, List.getElem?_drop] using this
  · have := congrArg List.tail h
    simpa [List.tail_drop] using this
section JX2
variable {l : Launch} {G : ab_G} {ol : ab_Ol} {d : Nat} {sh : ab_S} {rf : ab_R} {mem : ab_N} {nx : Nat} {K : ab_K}
abbrev yIxc : MethodName := ⟨"java/lang/StringLatin1", "indexOfChar", "([BIII)I"⟩
theorem j_ixc {i q : Nat} (hi : i < 6) (hK : K (some (.int (ixJ i q))) sh rf mem nx) : jx l G ol (d + 1) yIxc prog_15_method_23_code 6 (some .int) [.ref (G.2.2.2.2 (8 + i)), .int (nI q), .int 0, .int (nI (ab_len.getD i 0))] sh rf mem nx K := by
  have hle := len_lt i hi
  have hbl := byt_len i hi
  refine jx_enter (by decide +kernel) (Nat.le_of_ble_eq_true rfl) rfl hK ?_
  intro p e R s m args below meth c Q X hR fin ls hl
  have hl : lv_has ls 6 [(0, .ref (G.2.2.2.2 (8 + i))), (1, .int (nI q)), (2, .int 0), (3, .int (nI (ab_len.getD i 0)))] := hl
  obtain ⟨⟨hx, hb, hml, hown, hts⟩, hO, hz, hfr, hlo⟩ := X
  obtain ⟨v1, v2, v3, v4⟩ := hO.2.2.2.2.2.2.1.1 i hi
  refine lv_iload_n (k := 1) hx hb (by decide +kernel) rfl (lv_at hl 1 rfl) ?_
  refine lv_i2b hx hb (by decide +kernel) rfl ?_
  refine lv_istore (i := 4) (lv' := [(4, .int (nI q).toInt8.toInt32), (0, .ref (G.2.2.2.2 (8 + i))), (1, .int (nI q)), (2, .int 0), (3, .int (nI (ab_len.getD i 0)))]) hx hb (by decide +kernel) hl (by decide) rfl (fun ls hl => ?_)
  refine lv_iload_n (k := 2) hx hb (by decide +kernel) rfl (lv_at hl 3 rfl) ?_
  refine lv_istore (i := 5) (lv' := [(5, .int (nI 0)), (4, .int (nI q).toInt8.toInt32), (0, .ref (G.2.2.2.2 (8 + i))), (1, .int (nI q)), (2, .int 0), (3, .int (nI (ab_len.getD i 0)))]) hx hb (by decide +kernel) hl (by decide) rfl (fun ls hl => ?_)
  have loop : ∀ (xs : List Int32) (j : Nat) (ls : Array Slot), (ab_byt.getD i []).drop j = xs → j ≤ ab_len.getD i 0 → ixF (nI q).toInt8.toInt32 xs j = ixJ i q → lv_has ls 6 [(5, .int (nI j)), (4, .int (nI q).toInt8.toInt32), (0, .ref (G.2.2.2.2 (8 + i))), (1, .int (nI q)), (2, .int 0), (3, .int (nI (ab_len.getD i 0)))] → W p l e R s m args below meth c s.heap [] 0 0 Q (F0 m 7 ls []) := by
    intro xs
    induction xs with
    | nil =>
      intro j ls hd hj hf hl
      have : (ab_byt.getD i []).length ≤ j := List.drop_eq_nil_iff.mp hd
      have ej : j = ab_len.getD i 0 := by omega
      refine lv_iload (i := 5) hx hb (by decide +kernel) (lv_at hl 0 rfl) ?_
      refine lv_iload_n (k := 3) hx hb (by decide +kernel) rfl (lv_at hl 5 rfl) ?_
      refine lv_icmp_ge (off := 21) (tgt := 31) hx hb (by decide +kernel) (by decide) (fun _ => ?_) (fun z => absurd (by rw [ej]; exact Int32.le_refl _) z)
      refine lv_iconst (n := -1) (v := -1) hx hb (by decide +kernel) (by decide) ?_
      rw [show ixF (nI q).toInt8.toInt32 [] j = -1 from rfl] at hf
      rw [hf]
      exact fin _ _ _ _ hR va_S.rf (by decide +kernel)
    | cons x xs ih =>
      intro j ls hd hj hf hl
      obtain ⟨g1, g2, g3⟩ := getD_drop hd
      refine lv_iload (i := 5) hx hb (by decide +kernel) (lv_at hl 0 rfl) ?_
      refine lv_iload_n (k := 3) hx hb (by decide +kernel) rfl (lv_at hl 5 rfl) ?_
      refine lv_icmp_ge (off := 21) (tgt := 31) hx hb (by decide +kernel) (by decide) (fun z => absurd z (nI_ge (by omega) (by omega))) (fun _ => ?_)
      refine lv_aload_n (k := 0) hx hb (by decide +kernel) rfl (lv_at hl 2 rfl) ?_
      refine lv_iload (i := 5) hx hb (by decide +kernel) (lv_at hl 0 rfl) ?_
      refine va_tb hx hb v4 va_S.rf (vp_in_nI (by omega) (by omega)) (v := .int x) (by rw [cl_nI (by omega), g2]) (by decide +kernel) ?_
      refine lv_iload (i := 4) hx hb (by decide +kernel) (lv_at hl 1 rfl) ?_
      refine lv_icmp_ne (off := 6) (tgt := 25) hx hb (by decide +kernel) (by decide) (fun z => ?_) (fun z => ?_)
      · refine lv_iinc (i := 5) (k := 0) (n := 1) (v := nI (j + 1)) (lv' := [(5, .int (nI (j + 1))), (4, .int (nI q).toInt8.toInt32), (0, .ref (G.2.2.2.2 (8 + i))), (1, .int (nI q)), (2, .int 0), (3, .int (nI (ab_len.getD i 0)))]) hx hb (by decide +kernel) hl rfl (by rw [← nI_1]; rfl) (by decide) rfl (fun ls hl => ?_)
        refine lv_goto (off := -21) (tgt := 7) hx hb (by decide +kernel) (by decide) ?_
        rw [ixF, if_neg z] at hf
        exact ih (j + 1) ls g3 (by omega) hf hl
      · rw [ixF, if_pos z] at hf
        refine lv_iload (i := 5) hx hb (by decide +kernel) (lv_at hl 0 rfl) ?_
        rw [hf]
        exact fin _ _ _ _ hR va_S.rf (by decide +kernel)
  exact loop (ab_byt.getD i []) 0 ls rfl (Nat.zero_le _) rfl hl
abbrev yIx4 : MethodName := ⟨"java/lang/StringLatin1", "indexOf", "([BIII)I"⟩
theorem len_pos : ∀ i, i < 6 → 1 ≤ ab_len.getD i 0 := by decide +kernel
theorem j_ix4 {i q : Nat} (hi : i < 6) (hq : q < 256) (hK : K (some (.int (ixJ i q))) sh rf mem nx) : jx l G ol (d + 2) yIx4 prog_15_method_22_code 4 (some .int) [.ref (G.2.2.2.2 (8 + i)), .int (nI q), .int 0, .int (nI (ab_len.getD i 0))] sh rf mem nx K := by
  have hle := len_lt i hi
  have hp := len_pos i hi
  refine jx_enter (by decide +kernel) (Nat.le_of_ble_eq_true rfl) rfl hK ?_
  intro p e R s m args below meth c Q X hR fin ls hl
  have hl : lv_has ls 4 [(0, .ref (G.2.2.2.2 (8 + i))), (1, .int (nI q)), (2, .int 0), (3, .int (nI (ab_len.getD i 0)))] := hl
  have X' := X
  obtain ⟨⟨hx, hb, hml, hown, hts⟩, hO, hz, hfr, hlo⟩ := X
  obtain ⟨v1, v2, v3, v4⟩ := hO.2.2.2.2.2.2.1.1 i hi
  refine lv_iload_n (k := 1) hx hb (by decide +kernel) rfl (lv_at hl 1 rfl) ?_
  refine jx_callS (As := [.int (nI q)]) (rest := []) (d0 := d + 1) (idx := 88) (n := 1) X' (j_enc (d := d) hq ⟨rfl, rfl, rfl, rfl, rfl⟩) (by omega) (by decide) (inw (by decide +kernel)) jwL (inw (by decide +kernel)) (inw (by decide +kernel)) ⟨by decide, by decide, by decide +kernel⟩ rfl hl.1 (by decide) hR va_S.rf (by decide +kernel) (fun H1 locs1 hR1 hS1 => ?_)
  refine lv_if_ne (x := 1) (off := 5) (tgt := 9) hx hb (by decide +kernel) (by decide) (fun _ => ?_) (fun z => absurd z (by decide))
  refine lv_iload_n (k := 2) hx hb (by decide +kernel) rfl (lv_at hl 2 rfl) ?_
  refine lv_iconst (n := 0) (v := 0) hx hb (by decide +kernel) (by decide) ?_
  have m1 : Cond.methodLink "java/lang/StringLatin1" 92 Lib.Math.max.name ∈ ab_ws := inw (by decide +kernel)
  have m2 : Cond.static Lib.Math.max.name ∈ ab_ws := inw (by decide +kernel)
  have m3 : Cond.code Lib.Math.max.name Lib.Math.max.code 2 (some .int) ∈ ab_ws := inw (by decide +kernel)
  have m4 : Cond.methodLink "java/lang/StringLatin1" 38 Lib.Math.min.name ∈ ab_ws := inw (by decide +kernel)
  have m5 : Cond.static Lib.Math.min.name ∈ ab_ws := inw (by decide +kernel)
  have m6 : Cond.code Lib.Math.min.name Lib.Math.min.code 2 (some .int) ∈ ab_ws := inw (by decide +kernel)
  refine va_mmax hx hb (by rw [hml]; exact hl.1.symm) hown (hts _ m1) (hts _ m2) (hts _ jwM) (hts _ m3) (by omega) (by show 0 + 13 ≤ R.locals; omega) (Nat.zero_le _) (Nat.zero_le _) (by decide +kernel) ?_
  refine lv_istore_n (k := 2) (lv' := [(2, .int 0), (0, .ref (G.2.2.2.2 (8 + i))), (1, .int (nI q)), (3, .int (nI (ab_len.getD i 0)))]) hx hb (by decide +kernel) rfl hl (by decide) rfl (fun ls hl => ?_)
  refine lv_iload_n (k := 3) hx hb (by decide +kernel) rfl (lv_at hl 3 rfl) ?_
  refine lv_aload_n (k := 0) hx hb (by decide +kernel) rfl (lv_at hl 1 rfl) ?_
  refine va_tlen hx hb v4 hS1 rfl (by decide +kernel) ?_
  refine va_mmin hx hb (by rw [hml]; exact hl.1.symm) hown (hts _ m4) (hts _ m5) (hts _ jwM) (hts _ m6) (by omega) (by show 0 + 13 ≤ R.locals; omega) (Nat.zero_le _) (Nat.zero_le _) (by decide +kernel) ?_
  have em : (if Int32.ofNat (ab_len.getD i 0) < nI (ab_len.getD i 0) then Int32.ofNat (ab_len.getD i 0) else nI (ab_len.getD i 0)) = nI (ab_len.getD i 0) := by split <;> rfl
  rw [em]
  refine lv_istore_n (k := 3) (lv' := [(3, .int (nI (ab_len.getD i 0))), (2, .int 0), (0, .ref (G.2.2.2.2 (8 + i))), (1, .int (nI q))]) hx hb (by decide +kernel) rfl hl (by decide) rfl (fun ls hl => ?_)
  refine lv_iload_n (k := 2) hx hb (by decide +kernel) rfl (lv_at hl 1 rfl) ?_
  refine lv_iload_n (k := 3) hx hb (by decide +kernel) rfl (lv_at hl 0 rfl) ?_
  refine lv_icmp_lt (off := 5) (tgt := 29) hx hb (by decide +kernel) (by decide) (fun _ => ?_) (fun z => absurd (nI_lt (a := 0) hp (by omega)) z)
  refine lv_aload_n (k := 0) hx hb (by decide +kernel) rfl (lv_at hl 2 rfl) ?_
  refine lv_iload_n (k := 1) hx hb (by decide +kernel) rfl (lv_at hl 3 rfl) ?_
  refine lv_iload_n (k := 2) hx hb (by decide +kernel) rfl (lv_at hl 1 rfl) ?_
  refine lv_iload_n (k := 3) hx hb (by decide +kernel) rfl (lv_at hl 0 rfl) ?_
  refine jx_callS (As := [.ref (G.2.2.2.2 (8 + i)), .int (nI q), .int 0, .int (nI (ab_len.getD i 0))]) (rest := []) (d0 := d + 1) (idx := 95) (n := 4) X' (j_ixc (d := d) hi ⟨rfl, rfl, rfl, rfl, rfl⟩) (by omega) (by decide) (inw (by decide +kernel)) jwL (inw (by decide +kernel)) (inw (by decide +kernel)) ⟨by decide, by decide, by decide +kernel⟩ rfl hl.1 (by decide) hR1 hS1 (by decide +kernel) (fun H2 locs2 hR2 hS2 => ?_)
  exact fin _ _ _ _ hR2 hS2 (by decide +kernel)
abbrev yIx2 : MethodName := ⟨"java/lang/String", "indexOf", "(II)I"⟩
theorem j_ix2 {i q : Nat} (hi : i < 6) (hq : q < 256) (hK : K (some (.int (ixJ i q))) sh rf mem nx) : jx l G ol (d + 3) yIx2 prog_14_method_80_code 3 (some .int) [.ref (G.2.2.2.2 (2 + i)), .int (nI q), .int 0] sh rf mem nx K := by
  refine jx_enter (by decide +kernel) (Nat.le_of_ble_eq_true rfl) rfl hK ?_
  intro p e R s m args below meth c Q X hR fin ls hl
  have hl : lv_has ls 3 [(0, .ref (G.2.2.2.2 (2 + i))), (1, .int (nI q)), (2, .int 0)] := hl
  have X' := X
  obtain ⟨⟨hx, hb, hml, hown, hts⟩, hO, hz, hfr, hlo⟩ := X
  obtain ⟨v1, v2, v3, v4⟩ := hO.2.2.2.2.2.2.1.1 i hi
  refine lv_aload_n (k := 0) hx hb (by decide +kernel) rfl (lv_at hl 0 rfl) ?_
  refine jx_callV (As := []) (rest := []) (d0 := d + 1) (idx := 492) (n := 0) X' hi rfl (j_latin (d := d) hi ⟨rfl, rfl, rfl, rfl, rfl⟩) (by omega) (by decide) (inw (by decide +kernel)) jwS (inw (by decide +kernel)) (inw (by decide +kernel)) (inw (by decide +kernel)) ⟨by decide, by decide, by decide +kernel⟩ rfl hl.1 (by decide) hR va_S.rf (by decide +kernel) (fun H1 locs1 hR1 hS1 => ?_)
  refine lv_if_eq (x := 1) (off := 19) (tgt := 23) hx hb (by decide +kernel) (by decide) (fun q => absurd q (by decide)) (fun _ => ?_)
  refine lv_aload_n (k := 0) hx hb (by decide +kernel) rfl (lv_at hl 0 rfl) ?_
  refine vk_getf hx hb v3 hS1 hown (hts _ jwV) (fun x h => h) (by decide +kernel) ?_
  refine lv_iload_n (k := 1) hx hb (by decide +kernel) rfl (lv_at hl 1 rfl) ?_
  refine lv_iload_n (k := 2) hx hb (by decide +kernel) rfl (lv_at hl 2 rfl) ?_
  refine lv_aload_n (k := 0) hx hb (by decide +kernel) rfl (lv_at hl 0 rfl) ?_
  refine jx_callV (As := []) (rest := [.int 0, .int (nI q), .ref (G.2.2.2.2 (8 + i))]) (d0 := d + 2) (idx := 505) (n := 0) X' hi rfl (j_length (d := d) hi ⟨rfl, rfl, rfl, rfl, rfl⟩) (by omega) (by decide) (inw (by decide +kernel)) jwS (inw (by decide +kernel)) (inw (by decide +kernel)) (inw (by decide +kernel)) ⟨by decide, by decide, by decide +kernel⟩ rfl hl.1 (Nat.le_of_ble_eq_true rfl) hR1 hS1 (by decide +kernel) (fun H2 locs2 hR2 hS2 => ?_)
  refine jx_callS (As := [.ref (G.2.2.2.2 (8 + i)), .int (nI q), .int 0, .int (nI (ab_len.getD i 0))]) (rest := []) (d0 := d + 2) (idx := 637) (n := 4) X' (j_ix4 (d := d) hi hq ⟨rfl, rfl, rfl, rfl, rfl⟩) (by omega) (by decide) (inw (by decide +kernel)) jwL (inw (by decide +kernel)) (inw (by decide +kernel)) ⟨by decide, by decide, by decide +kernel⟩ rfl hl.1 (by decide) hR2 hS2 (by decide +kernel) (fun H3 locs3 hR3 hS3 => ?_)
  refine lv_goto (off := 16) (tgt := 36) hx hb (by decide +kernel) (by decide) ?_
  exact fin _ _ _ _ hR3 hS3 (by decide +kernel)
abbrev yIx1 : MethodName := ⟨"java/lang/String", "indexOf", "(I)I"⟩
theorem j_ix1 {i q : Nat} (hi : i < 6) (hq : q < 256) (hK : K (some (.int (ixJ i q))) sh rf mem nx) : jx l G ol (d + 4) yIx1 prog_14_method_79_code 2 (some .int) [.ref (G.2.2.2.2 (2 + i)), .int (nI q)] sh rf mem nx K := by
  refine jx_enter (by decide +kernel) (Nat.le_of_ble_eq_true rfl) rfl hK ?_
  intro p e R s m args below meth c Q X hR fin ls hl
  have hl : lv_has ls 2 [(0, .ref (G.2.2.2.2 (2 + i))), (1, .int (nI q))] := hl
  have X' := X
  obtain ⟨⟨hx, hb, hml, hown, hts⟩, hO, hz, hfr, hlo⟩ := X
  refine lv_aload_n (k := 0) hx hb (by decide +kernel) rfl (lv_at hl 0 rfl) ?_
  refine lv_iload_n (k := 1) hx hb (by decide +kernel) rfl (lv_at hl 1 rfl) ?_
  refine lv_iconst (n := 0) (v := 0) hx hb (by decide +kernel) (by decide) ?_
  refine jx_callV (As := [.int (nI q), .int 0]) (rest := []) (d0 := d + 3) (idx := 633) (n := 2) X' hi rfl (j_ix2 (d := d) hi hq ⟨rfl, rfl, rfl, rfl, rfl⟩) (by omega) (by decide) (inw (by decide +kernel)) jwS (inw (by decide +kernel)) (inw (by decide +kernel)) (inw (by decide +kernel)) ⟨by decide, by decide, by decide +kernel⟩ rfl hl.1 (by decide) hR va_S.rf (by decide +kernel) (fun H1 locs1 hR1 hS1 => ?_)
  exact fin _ _ _ _ hR1 hS1 (by decide +kernel)
theorem cv_str {i : Nat} : ab_cv G (.ref (ab_old + 2 + i)) = .ref (G.2.2.2.2 (2 + i)) := by
  show Value.ref (ab_loc G (ab_old + 2 + i)) = _
  unfold ab_loc
  rw [if_neg (by omega), show ab_old + 2 + i - ab_old = 2 + i by omega]
theorem s_length {i : Nat} (hi : i < 6) (hK : K (some (.int (nI (ab_len.getD i 0)))) sh rf mem nx) : ab_Cx l G ol (d + 2) mSt_length [.ref (ab_old + 2 + i)] sh rf mem nx K := by
  have := j_length (l := l) (G := G) (ol := ol) (d := d) hi hK
  unfold jx at this
  unfold ab_Cx
  rw [List.map_cons, cv_str]
  exact this
theorem s_charAt {i k : Nat} (hi : i < 6) (hk : k < ab_len.getD i 0) (hK : K (some (.int (chJ i k))) sh rf mem nx) : ab_Cx l G ol (d + 4) mSt_charAt [.ref (ab_old + 2 + i), .int (nI k)] sh rf mem nx K := by
  have := j_charAt (l := l) (G := G) (ol := ol) (d := d) hi hk hK
  unfold jx at this
  unfold ab_Cx
  rw [List.map_cons, cv_str]
  exact this
theorem s_indexOf {i q : Nat} (hi : i < 6) (hq : q < 256) (hK : K (some (.int (ixJ i q))) sh rf mem nx) : ab_Cx l G ol (d + 4) mSt_indexOf [.ref (ab_old + 2 + i), .int (nI q)] sh rf mem nx K := by
  have := j_ix1 (l := l) (G := G) (ol := ol) (d := d) hi hq hK
  unfold jx at this
  unfold ab_Cx
  rw [List.map_cons, cv_str]
  exact this
end JX2
