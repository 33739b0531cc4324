/-! CONSTRUCTORS: what they make -/
section IN
variable {l : Launch} {G : ab_G} {ol : ab_Ol} {d : Nat} {sh : ab_S} {rf : ab_R} {mem : ab_N} {nx : Nat} {K : ab_K}
theorem is_sw {a c : Nat} {x : Nat × Nat} (h : ab_is sh nx a c) : ab_is (ab_sw sh nx x) (nx + 1) a c := ⟨Nat.lt_succ_of_lt h.1, by unfold ab_sw; rw [if_neg (Nat.ne_of_lt h.1)]; exact h.2⟩
theorem i_Tr {p : Nat} (hn : nx < 1000) (h6 : ab_is sh nx p 6) (h : K none (ab_sw sh nx (10, Int32.toNatClampNeg (6 : Int32))) (ab_wr (ab_rz rf nx) p 7 (some nx)) (ab_row mem nx fun _ => 0) (nx + 1)) : ab_Cx l G ol (d + 1) mTr_init [.ref p] sh rf mem nx K :=
  e_mTr_init ⟨⟨by decide, by decide⟩, by decide, by decide, by unfold ab_old; omega, is_sw h6, h⟩
theorem i_Ro {p : Nat} (hn : nx < 1000) (h3 : ab_is sh nx p 3) (h : K none (ab_sw sh nx (10, Int32.toNatClampNeg (24 : Int32))) (ab_wr (ab_rz rf nx) p 2 (some nx)) (ab_row (ab_w (ab_w mem p 0 (-1)) p 1 0) nx fun _ => 0) (nx + 1)) : ab_Cx l G ol (d + 1) mRo_init [.ref p] sh rf mem nx K :=
  e_mRo_init ⟨h3, h3, ⟨by decide, by decide⟩, by decide, by decide, by unfold ab_old; omega, is_sw h3, h⟩
theorem i_La {p : Nat} (hn : nx < 1000) (h0 : ab_is sh nx p 0) (h : K none (ab_sw (ab_sw sh nx (20 + 5, Int32.toNatClampNeg (14 : Int32))) (nx + 1) (10, Int32.toNatClampNeg (96 : Int32))) (ab_wr (ab_rz (ab_wr (ab_rz rf nx) p 0 (some nx)) (nx + 1)) p 1 (some (nx + 1))) (ab_row (ab_row mem nx fun _ => 0) (nx + 1) fun _ => 0) (nx + 1 + 1)) : ab_Cx l G ol (d + 1) mLa_init [.ref p] sh rf mem nx K :=
  e_mLa_init ⟨⟨by decide, by decide⟩, by decide, by decide, by unfold ab_old; omega, is_sw h0, ⟨by decide, by decide⟩, by decide, by decide, by unfold ab_old; omega, is_sw (is_sw h0), h⟩
theorem i_Le {p : Nat} (h1 : ab_is sh nx p 1) (h : K none sh rf (ab_w (ab_w (ab_w mem p 0 0) p 1 0) p 2 0) nx) : ab_Cx l G ol (d + 1) mLe_init [.ref p] sh rf mem nx K :=
  e_mLe_init ⟨h1, Or.inl rfl, h1, h1, h⟩
theorem i_Re {p q : Nat} (hn : nx < 1000) (h2 : ab_is sh nx p 2) (h : K none (ab_sw sh nx (10, Int32.toNatClampNeg (96 : Int32))) (ab_wr (ab_wr (ab_rz rf nx) p 1 (some nx)) p 0 (some q)) (ab_row mem nx fun _ => 0) (nx + 1)) : ab_Cx l G ol (d + 1) mRe_init [.ref p, .ref q] sh rf mem nx K :=
  e_mRe_init ⟨⟨by decide, by decide⟩, by decide, by decide, by unfold ab_old; omega, is_sw h2, is_sw h2, h⟩
def slS (sh : ab_S) (n : Nat) : ab_S := ab_sw (ab_sw (ab_sw (ab_sw sh n (6, 0)) (n + 1) (10, Int32.toNatClampNeg (6 : Int32))) (n + 1 + 1) (3, 0)) (n + 1 + 1 + 1) (10, Int32.toNatClampNeg (24 : Int32))
def slR (rf : ab_R) (p n : Nat) : ab_R := ab_wr (ab_wr (ab_rz (ab_rz (ab_wr (ab_wr (ab_rz (ab_rz rf n) (n + 1)) n 7 (some (n + 1))) p 2 (some n)) (n + 1 + 1)) (n + 1 + 1 + 1)) (n + 1 + 1) 2 (some (n + 1 + 1 + 1))) p 3 (some (n + 1 + 1))
def slM (mem : ab_N) (p n : Nat) : ab_N := ab_row (ab_w (ab_w (ab_row (ab_row (ab_row (ab_w (ab_w mem p 0 0) p 1 0) n fun _ => 0) (n + 1) fun _ => 0) (n + 1 + 1) fun _ => 0) (n + 1 + 1) 0 (-1)) (n + 1 + 1) 1 0) (n + 1 + 1 + 1) fun _ => 0
theorem is_nw {n c : Nat} : ab_is (ab_sw sh n (c, 0)) (n + 1) n c := ⟨Nat.lt_succ_self n, by unfold ab_sw; rw [if_pos rfl]⟩
theorem i_Sl {p : Nat} (hn : nx < 990) (h4 : ab_is sh nx p 4) (h : K none (slS sh nx) (slR rf p nx) (slM mem p nx) (nx + 1 + 1 + 1 + 1)) : ab_Cx l G ol (d + 1 + 1) mSl_init [.ref p] sh rf mem nx K := by
  refine e_mSl_init ⟨h4, h4, ⟨by decide, by decide⟩, by unfold ab_old; omega, ⟨by decide, by decide⟩, i_Tr (by omega) is_nw ⟨rfl, is_sw (is_sw h4), ⟨by decide, by decide⟩, by unfold ab_old; omega, ⟨by decide, by decide⟩, ?_⟩⟩
  exact i_Ro (by omega) is_nw ⟨rfl, is_sw (is_sw (is_sw (is_sw h4))), h⟩
def wlS (sh : ab_S) (n : Nat) : Nat → ab_S
  | 0 => sh
  | i + 1 => ab_sw (ab_sw (wlS sh n i) (n + 2 * i) (6, 0)) (n + 2 * i + 1) (10, Int32.toNatClampNeg (6 : Int32))
def wlR (rf : ab_R) (A n : Nat) : Nat → ab_R
  | 0 => rf
  | i + 1 => ab_wr (ab_wr (ab_rz (ab_rz (wlR rf A n i) (n + 2 * i)) (n + 2 * i + 1)) (n + 2 * i) 7 (some (n + 2 * i + 1))) A (Int32.toNatClampNeg (nI i)) (some (n + 2 * i))
def wlM (mem : ab_N) (n : Nat) : Nat → ab_N
  | 0 => mem
  | i + 1 => ab_row (ab_row (wlM mem n i) (n + 2 * i) fun _ => 0) (n + 2 * i + 1) fun _ => 0
theorem wlS_o {n a : Nat} (ha : a < n) : ∀ i, wlS sh n i a = sh a
  | 0 => rfl
  | i + 1 => by
    show ab_sw (ab_sw (wlS sh n i) (n + 2 * i) (6, 0)) (n + 2 * i + 1) _ a = _
    unfold ab_sw
    rw [if_neg (by omega), if_neg (by omega)]
    exact wlS_o ha i
theorem wlR_o {A n a : Nat} (ha : a < n) (hA : a ≠ A) : ∀ i, wlR rf A n i a = rf a
  | 0 => rfl
  | i + 1 => by
    show ab_wr (ab_wr (ab_rz (ab_rz (wlR rf A n i) (n + 2 * i)) (n + 2 * i + 1)) (n + 2 * i) 7 (some (n + 2 * i + 1))) A _ _ a = _
    unfold ab_wr ab_rz
    rw [if_neg hA, if_neg (by omega), if_neg (by omega), if_neg (by omega)]
    exact wlR_o ha hA i
def wdS (sh : ab_S) (n : Nat) : ab_S := ab_sw (ab_sw sh n (20 + 6, Int32.toNatClampNeg (8 : Int32))) (n + 1) (10, Int32.toNatClampNeg (3 : Int32))
def wdR (rf : ab_R) (w L n : Nat) : ab_R := ab_wr (ab_wr (ab_rz (ab_wr (ab_rz rf n) w 1 (some n)) (n + 1)) w 9 (some (n + 1))) w 0 (some L)
def wdM (mem : ab_N) (w n : Nat) : ab_N := ab_w (ab_w (ab_w (ab_w (ab_row (ab_w (ab_w (ab_w (ab_w (ab_w (ab_w (ab_w (ab_row mem n fun _ => 0) w 2 0) w 3 50) w 4 1) w 5 0) w 6 0) w 7 1) w 8 0) (n + 1) fun _ => 0) (n + 1) (Int32.toNatClampNeg (0 : Int32)) (-1000000005)) (n + 1) (Int32.toNatClampNeg (1 : Int32)) (-1000000005)) (n + 1) (Int32.toNatClampNeg (2 : Int32)) (-1000000005)) w 10 (-1000000005)
theorem i_Wo {w L : Nat} (hn : nx < 900) (h7 : ab_is sh nx w 7) (h : K none (wlS (wdS sh nx) (nx + 1 + 1) 8) (wlR (wdR rf w L nx) nx (nx + 1 + 1) 8) (wlM (wdM mem w nx) (nx + 1 + 1) 8) (nx + 18)) : ab_Cx l G ol (d + 1 + 1) mWo_init [.ref w, .ref L] sh rf mem nx K := by
  have hw := h7.1
  have s1 : ab_is (ab_sw sh nx (20 + 6, Int32.toNatClampNeg (8 : Int32))) (nx + 1) w 7 := is_sw h7
  have s2 : ab_is (wdS sh nx) (nx + 1 + 1) w 7 := is_sw s1
  have n10 : ab_is (wdS sh nx) (nx + 1 + 1) (nx + 1) 10 := ⟨Nat.lt_succ_self _, by unfold wdS ab_sw; rw [if_pos rfl]⟩
  have l10 : (wdS sh nx (nx + 1)).2 = 3 := by unfold wdS ab_sw; rw [if_pos rfl]; rfl
  have eA : wdS sh nx nx = (26, 8) := by unfold wdS ab_sw; rw [if_neg (by omega), if_pos rfl]; rfl
  have eR : wdR rf w L nx w 1 = some nx := by
    unfold wdR ab_wr ab_rz va_up
    simp only [if_true, if_neg (show w ≠ nx by omega), if_neg (show w ≠ nx + 1 by omega)]
    rfl
  have vin : ∀ i, i < 3 → vp_in (nI i) (wdS sh nx (nx + 1)).2 := fun i hi => by rw [l10]; exact vp_in_nI hi (by decide)
  suffices loop : ∀ m i n cu su, i + m = 8 → n = nx + 1 + 1 + 2 * i → cu = 2 + 2 * i → su = 11 + 17 * i → ab_Go l G ol (d + 1) mWo_init (ab_mc mWo_init) (ab_ms mWo_init) (fun r sh rf mem nx _ _ => K r sh rf mem nx) 84 [.ref w, .ref L, .int (nI i)] [] (wlS (wdS sh nx) (nx + 1 + 1) i) (wlR (wdR rf w L nx) nx (nx + 1 + 1) i) (wlM (wdM mem w nx) (nx + 1 + 1) i) n cu su from
    e_mWo_init ⟨⟨by decide, by decide⟩, by decide, by decide, by unfold ab_old; omega, s1, s1, s1, s1, s1, s1, s1, s1, ⟨by decide, by decide⟩, by decide, by decide, by unfold ab_old; omega, n10, vin 0 (by decide), n10, vin 1 (by decide), n10, vin 2 (by decide), s2, s2, s2, loop 8 0 _ _ _ rfl rfl rfl rfl⟩
  intro m
  induction m with
  | zero =>
    intro i n cu su hi en ec es
    have : i = 8 := by omega
    subst this; subst en
    exact h_mWo_init_84 ⟨fun _ => h, fun q => absurd (by decide) q⟩
  | succ m ih =>
    intro i n cu su hi en ec es
    have hi8 : i < 8 := by omega
    have t7 : ab_is (wlS (wdS sh nx) (nx + 1 + 1) i) n w 7 := ⟨by omega, by rw [wlS_o (by omega)]; exact s2.2⟩
    have tA : ab_is (wlS (wdS sh nx) (nx + 1 + 1) i) n nx 26 := ⟨by omega, by rw [wlS_o (by omega), eA]⟩
    refine h_mWo_init_84 ⟨fun q => absurd q (nI_ge hi8 (by decide)), fun _ => ⟨t7, nx, by rw [wlR_o (by omega) (by omega)]; exact eR, ⟨?_, ?_⟩, by unfold ab_old; omega, ⟨?_, ?_⟩, ?_⟩⟩
    · show cu + 1 ≤ 18; omega
    · show su + 11 ≤ 147; omega
    · show cu + 1 + 1 ≤ 18; omega
    · show su + 11 + 6 ≤ 147; omega
    refine i_Tr (by omega) is_nw ⟨rfl, is_sw (is_sw tA), is_sw is_nw, ?_, ?_⟩
    · have : (ab_sw (ab_sw (wlS (wdS sh nx) (nx + 1 + 1) i) n (6, 0)) (n + 1) (10, Int32.toNatClampNeg (6 : Int32)) nx) = (26, 8) := by
        unfold ab_sw
        rw [if_neg (by omega), if_neg (by omega), wlS_o (by omega), eA]
      rw [this]
      exact vp_in_nI hi8 (by decide)
    · rw [nI_1]
      have := ih (i + 1) (n + 1 + 1) (cu + 1 + 1) (su + 11 + 6) (by omega) (by omega) (by omega) (by omega)
      subst en
      exact this
end IN
