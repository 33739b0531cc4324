/-! THE REFERENCE, MADE; then both are as the invariant says -/
def rw102 : Row := upd (upd (upd (fun _ => 0) (Int32.toNatClampNeg (0 : Int32)) (1)) (Int32.toNatClampNeg (3 : Int32)) (50)) (Int32.toNatClampNeg (4 : Int32)) (1)
def rw110 : Row := upd (upd (upd (upd (upd (upd (upd (upd (upd (upd (upd (fun _ => 0) (Int32.toNatClampNeg (0 : Int32)) (vp_nar .char (99 : Int32))) (Int32.toNatClampNeg (1 : Int32)) (vp_nar .char (111 : Int32))) (Int32.toNatClampNeg (2 : Int32)) (vp_nar .char (115 : Int32))) (Int32.toNatClampNeg (3 : Int32)) (vp_nar .char (116 : Int32))) (Int32.toNatClampNeg (4 : Int32)) (vp_nar .char (102 : Int32))) (Int32.toNatClampNeg (5 : Int32)) (vp_nar .char (101 : Int32))) (Int32.toNatClampNeg (6 : Int32)) (vp_nar .char (101 : Int32))) (Int32.toNatClampNeg (7 : Int32)) (vp_nar .char (102 : Int32))) (Int32.toNatClampNeg (8 : Int32)) (vp_nar .char (105 : Int32))) (Int32.toNatClampNeg (9 : Int32)) (vp_nar .char (110 : Int32))) (Int32.toNatClampNeg (10 : Int32)) (vp_nar .char (101 : Int32))
def rw111 : Row := upd (upd (upd (upd (fun _ => 0) (Int32.toNatClampNeg (0 : Int32)) (0)) (Int32.toNatClampNeg (1 : Int32)) (4)) (Int32.toNatClampNeg (2 : Int32)) (7)) (Int32.toNatClampNeg (3 : Int32)) (11)
def rw117 : Row := upd (upd (upd (upd (fun _ => 0) (Int32.toNatClampNeg (0 : Int32)) (-1)) (Int32.toNatClampNeg (1 : Int32)) (-1)) (Int32.toNatClampNeg (2 : Int32)) (-1)) (Int32.toNatClampNeg (3 : Int32)) (-1)
theorem r102 : ∀ k, k < 1483 → rw102 k = if k = 0 then 1 else if k = 3 then 50 else if k = 4 then 1 else 0 := by decide +kernel
theorem r102z (k : Nat) (h : 5 ≤ k) : rw102 k = 0 := by
  unfold rw102 upd
  rw [if_neg (fun q => absurd (q.trans (show Int32.toNatClampNeg (4 : Int32) = 4 from rfl)) (by omega)), if_neg (fun q => absurd (q.trans (show Int32.toNatClampNeg (3 : Int32) = 3 from rfl)) (by omega)), if_neg (fun q => absurd (q.trans (show Int32.toNatClampNeg (0 : Int32) = 0 from rfl)) (by omega))]
theorem r110 : ∀ k, k < 11 → rw110 k = keyC k := by decide +kernel
theorem r111 : ∀ k, k < 4 → rw111 k = keyI k := by decide +kernel
theorem r117 : ∀ k, k < 4 → rw117 k = -1 := by decide +kernel
def LoS (sh sh' : ab_S) : Prop := ∀ a, a < 101 → sh' a = sh a
def LoR (rf rf' : ab_R) : Prop := ∀ a, a < 101 → rf' a = rf a
def LoM (m m' : ab_N) : Prop := ∀ a, a < 101 → m' a = m a
theorem lo_sw {s s' : ab_S} {n : Nat} {x : Nat × Nat} (h : LoS s s') (hn : 101 ≤ n) : LoS s (ab_sw s' n x) := fun a ha => by
  unfold ab_sw; rw [if_neg (by omega)]; exact h a ha
theorem lo_rz {s s' : ab_R} {n : Nat} (h : LoR s s') (hn : 101 ≤ n) : LoR s (ab_rz s' n) := fun a ha => by
  unfold ab_rz; rw [if_neg (by omega)]; exact h a ha
theorem lo_wr {s s' : ab_R} {n k : Nat} {x : Option Nat} (h : LoR s s') (hn : 101 ≤ n) : LoR s (ab_wr s' n k x) := fun a ha => by
  unfold ab_wr; rw [if_neg (by omega)]; exact h a ha
theorem lo_w {s s' : ab_N} {n k : Nat} {x : Int32} (h : LoM s s') (hn : 101 ≤ n) : LoM s (ab_w s' n k x) := fun a ha => by
  unfold ab_w; rw [if_neg (by omega)]; exact h a ha
theorem lo_row {s s' : ab_N} {n : Nat} {x : Row} (h : LoM s s') (hn : 101 ≤ n) : LoM s (ab_row s' n x) := fun a ha => by
  unfold ab_row; rw [if_neg (by omega)]; exact h a ha
theorem start_inv {sh sh' : ab_S} {rf rf' : ab_R} {mem mem' : ab_N} (hX : XP sh rf mem) (hs : LoS sh sh') (hr : LoR rf rf') (hm : LoM mem mem') (hs2 : ∀ j, j < 25 → sh' (101 + j) = shS (101 + j)) (hH : Hi 40 rf') (hr2 : ∀ k, k < 40 → rf' 101 k = rfS 101 k) (hr3 : ∀ j, j < 24 → ∀ k, rf' (102 + j) k = rfS (102 + j) k) (e102 : mem' 102 = rw102) (e103 : mem' 103 = fun _ => 0) (e109 : mem' 109 = fun _ => 0) (e110 : mem' 110 = rw110) (e111 : mem' 111 = rw111) (e117 : mem' 117 = rw117) (e118 : mem' 118 = fun _ => 0) (e119 : mem' 119 = fun _ => 0) (e120 : mem' 120 = fun _ => 0) (e125 : mem' 125 = fun _ => 0) (e3 : mem' 101 3 = 0) (e4 : mem' 101 4 = -1) (e10 : mem' 101 10 = 0) (e36 : mem' 101 36 = 0) : Inv sh' rf' mem' 126 := by
  obtain ⟨x1, x2, x3, ⟨x4, x5, x6⟩, x7, x8, x9, x10, x11, x12⟩ := hX
  have m4 : ∀ k, k < 11 → mem' 4 k = [0, 0, 0, 50, 1, 0, 0, 1, 0, 0, -1000000005].getD k 0 := fun k hk => by rw [hm 4 (by decide)]; exact x9 k hk
  have m0 := hm 0 (by decide)
  refine ⟨⟨by decide, by decide, fun a ha => ?_, fun a k ha h2 => ?_⟩, 0, 0, 0, ⟨⟨by decide, by decide, ⟨⟨?_, ?_, ?_, ?_, ?_, ?_, ?_, ?_⟩, fun i k hi _ => absurd hi (by omega), fun i k hi _ => absurd hi (by omega)⟩, ⟨?_, ⟨50, by decide, by decide, ?_⟩, ⟨1, by decide, ?_⟩, Or.inl ?_, ?_, fun i hi => absurd hi (by omega)⟩, ⟨?_, by decide, fun t ht => absurd ht (by omega)⟩, ?_, fun k hk => ?_, fun k hk => ?_⟩, ⟨?_, fun k _ => ?_, Or.inl e3⟩, ⟨0, by decide, ?_, ?_, ?_, fun j => ⟨0, by decide, ?_⟩⟩, fun i hi => ?_, fun i hi => ?_, ⟨0, by decide, ?_, ?_, ?_⟩, ?_, ?_, ?_⟩, fun t ht => absurd ht (by omega)⟩
  · rcases Nat.lt_or_ge a 101 with g | g
    · rw [hs a g]; exact x1 a g
    · have := hs2 (a - 101) (by omega)
      rwa [show 101 + (a - 101) = a by omega] at this
  · rcases Nat.lt_or_ge a 101 with g | g
    · rw [hr a g]
      rcases Nat.lt_or_ge k 40 with z | z
      · exact x2 a g k z
      · rw [x3 a k z, rfS_hi a k z]
    · by_cases e : a = 101
      · subst e
        rcases Nat.lt_or_ge k 40 with z | z
        · exact hr2 k z
        · rw [hH 101 k z, rfS_hi 101 k z]
      · have := hr3 (a - 102) (by omega) k
        rwa [show 102 + (a - 102) = a by omega] at this
  · rw [m4 7 (by decide), e102, r102 0 (by decide)]; rfl
  · rw [m4 2 (by decide)]; rfl
  · rw [e102, r102 1 (by decide)]; rfl
  · rw [m4 6 (by decide), e102, r102 2 (by decide)]; rfl
  · rw [m4 3 (by decide), e102, r102 3 (by decide)]; rfl
  · rw [m4 4 (by decide), e102, r102 4 (by decide)]; rfl
  · rw [m4 5 (by decide), e102, r102 5 (by decide)]; rfl
  · rw [m4 8 (by decide), e102, r102 6 (by decide)]; rfl
  · rw [e102, r102 1 (by decide)]; rfl
  · rw [e102, r102 3 (by decide)]; rfl
  · rw [e102, r102 4 (by decide)]; rfl
  · rw [e102, r102 5 (by decide)]; rfl
  · rw [e102, r102 2 (by decide)]; rfl
  · rw [e102, r102 6 (by decide)]; rfl
  · rw [m4 10 (by decide)]; rfl
  · rw [hm 6 (by decide), x10 k hk]; rfl
  · rw [e102]; exact r102z k (by omega)
  · rw [m0, x4, e3]
  · rw [e103]
  · rw [m0, x5]; rfl
  · rw [e10]; rfl
  · rw [hm 62 (by decide), x7, e109]
  · rw [hm 62 (by decide), x7]; rfl
  · obtain ⟨y1, y2, y3⟩ := x11 i hi
    have c1 : shC i < 101 := by unfold shC; omega
    have c2 : shC i + 1 < 101 := by unfold shC; omega
    rw [hm _ c1, hm _ c2, e117, e118, e119, r117 i hi]
    exact ⟨y1, Or.inl rfl, ⟨0, by decide, y2, rfl⟩, fun k hk => y3 k hk, fun k _ => Or.inr (show -99999 ≤ (0 : Int32).toInt ∧ (0 : Int32).toInt ≤ 99999 by decide)⟩
  · rw [hm (slC i) (by unfold slC; omega), e120]
    exact ⟨x12 i hi, Or.inl rfl, fun q => absurd q (show ¬ (0 : Int32) = 1 by decide), fun q => absurd q (show ¬ (0 : Int32) = 2 by decide), fun q => absurd q (show ¬ (0 : Int32) = 3 by decide)⟩
  · rw [m0, x6]; rfl
  · rw [e36]; rfl
  · rw [hm 67 (by decide), x8, e125]
  · rw [e4]; rfl
  · intro k hk; rw [e110]; exact r110 k hk
  · intro k hk; rw [e111]; exact r111 k hk
section IM
variable {l : Launch} {G : ab_G} {ol : ab_Ol} {K : ab_K} {sh : ab_S} {rf : ab_R} {mem : ab_N}
theorem i_M (hX : XP sh rf mem) (h : ∀ sh rf mem, Inv sh rf mem 126 → K none sh rf mem 126) : ab_Cx l G ol 700 mM_init [.ref 101] (ab_sw sh 101 (9, 0)) (ab_rz rf 101) (ab_row mem 101 fun _ => 0) 102 K := by
  refine e_mM_init ⟨⟨by decide +kernel, by decide +kernel⟩, by decide +kernel, by decide +kernel, by decide +kernel, ⟨by decide +kernel, rfl⟩, ⟨by decide +kernel, by decide +kernel⟩, by decide +kernel, by decide +kernel, by decide +kernel, ⟨by decide +kernel, rfl⟩, ⟨by decide +kernel, by decide +kernel⟩, by decide +kernel, by decide +kernel, by decide +kernel, ⟨by decide +kernel, rfl⟩, ⟨by decide +kernel, rfl⟩, ⟨by decide +kernel, by decide +kernel⟩, by decide +kernel, by decide +kernel, by decide +kernel, ⟨by decide +kernel, rfl⟩, ?_⟩
  have vpr4 : ∀ i, i < 4 → vp_in (nI i) 4 := fun i hi => vp_in_nI hi (by decide)
  have vpr11 : ∀ i, i < 11 → vp_in (nI i) 11 := fun i hi => vp_in_nI hi (by decide)
  refine h_mM_init_44 ⟨⟨by decide +kernel, by decide +kernel⟩, by decide +kernel, by decide +kernel, by decide +kernel, ⟨by decide +kernel, rfl⟩, ⟨by decide +kernel, by decide +kernel⟩, by decide +kernel, by decide +kernel, by decide +kernel, ⟨by decide +kernel, rfl⟩, ⟨by decide +kernel, by decide +kernel⟩, by decide +kernel, by decide +kernel, by decide +kernel, ⟨by decide +kernel, rfl⟩, ⟨by decide +kernel, by decide +kernel⟩, by decide +kernel, by decide +kernel, by decide +kernel, ⟨by decide +kernel, rfl⟩, ⟨by decide +kernel, by decide +kernel⟩, by decide +kernel, by decide +kernel, by decide +kernel, ⟨by decide +kernel, rfl⟩, vpr11 0 (by decide), ⟨by decide +kernel, rfl⟩, vpr11 1 (by decide), ⟨by decide +kernel, rfl⟩, vpr11 2 (by decide), ⟨by decide +kernel, rfl⟩, vpr11 3 (by decide), ⟨by decide +kernel, rfl⟩, vpr11 4 (by decide), ⟨by decide +kernel, rfl⟩, vpr11 5 (by decide), ⟨by decide +kernel, rfl⟩, vpr11 6 (by decide), ⟨by decide +kernel, rfl⟩, vpr11 7 (by decide), ⟨by decide +kernel, rfl⟩, vpr11 8 (by decide), ⟨by decide +kernel, rfl⟩, vpr11 9 (by decide), ⟨by decide +kernel, rfl⟩, vpr11 10 (by decide), ⟨by decide +kernel, rfl⟩, ?_⟩
  refine h_mM_init_144 ⟨⟨by decide +kernel, by decide +kernel⟩, by decide +kernel, by decide +kernel, by decide +kernel, ⟨by decide +kernel, rfl⟩, vpr4 0 (by decide), ⟨by decide +kernel, rfl⟩, vpr4 1 (by decide), ⟨by decide +kernel, rfl⟩, vpr4 2 (by decide), ⟨by decide +kernel, rfl⟩, vpr4 3 (by decide), ⟨by decide +kernel, rfl⟩, ⟨by decide +kernel, by decide +kernel⟩, by decide +kernel, by decide +kernel, by decide +kernel, ⟨by decide +kernel, rfl⟩, ⟨by decide +kernel, by decide +kernel⟩, by decide +kernel, by decide +kernel, by decide +kernel, ⟨by decide +kernel, rfl⟩, ⟨by decide +kernel, by decide +kernel⟩, by decide +kernel, by decide +kernel, by decide +kernel, ⟨by decide +kernel, rfl⟩, ⟨by decide +kernel, by decide +kernel⟩, by decide +kernel, by decide +kernel, by decide +kernel, ⟨by decide +kernel, rfl⟩, ?_⟩
  refine h_mM_init_201 ⟨⟨by decide +kernel, by decide +kernel⟩, by decide +kernel, by decide +kernel, by decide +kernel, ⟨by decide +kernel, rfl⟩, ⟨by decide +kernel, by decide +kernel⟩, by decide +kernel, by decide +kernel, by decide +kernel, ⟨by decide +kernel, rfl⟩, vpr4 0 (by decide), ⟨by decide +kernel, rfl⟩, vpr4 1 (by decide), ⟨by decide +kernel, rfl⟩, vpr4 2 (by decide), ⟨by decide +kernel, rfl⟩, vpr4 3 (by decide), ⟨by decide +kernel, rfl⟩, ⟨by decide +kernel, by decide +kernel⟩, by decide +kernel, by decide +kernel, by decide +kernel, ⟨by decide +kernel, rfl⟩, ⟨by decide +kernel, by decide +kernel⟩, by decide +kernel, by decide +kernel, by decide +kernel, ⟨by decide +kernel, rfl⟩, ⟨by decide +kernel, by decide +kernel⟩, by decide +kernel, by decide +kernel, by decide +kernel, ⟨by decide +kernel, rfl⟩, ?_⟩
  refine h_mM_init_253 ⟨⟨by decide +kernel, by decide +kernel⟩, by decide +kernel, by decide +kernel, by decide +kernel, ⟨by decide +kernel, rfl⟩, ⟨by decide +kernel, by decide +kernel⟩, by decide +kernel, by decide +kernel, by decide +kernel, ⟨by decide +kernel, rfl⟩, ⟨by decide +kernel, by decide +kernel⟩, by decide +kernel, by decide +kernel, by decide +kernel, ⟨by decide +kernel, rfl⟩, ⟨by decide +kernel, by decide +kernel⟩, by decide +kernel, by decide +kernel, by decide +kernel, ⟨by decide +kernel, rfl⟩, ⟨by decide +kernel, by decide +kernel⟩, by decide +kernel, by decide +kernel, by decide +kernel, ⟨by decide +kernel, rfl⟩, ?_⟩
  have vprb : ∀ i, i < 1483 → vp_in (nI i) 1483 := fun i hi => vp_in_nI hi (by decide)
  refine h_mM_init_291 ⟨⟨by decide +kernel, rfl⟩, 102, rfl, ⟨by decide +kernel, rfl⟩, vprb 0 (by decide), ⟨by decide +kernel, rfl⟩, 102, rfl, ⟨by decide +kernel, rfl⟩, vprb 3 (by decide), ⟨by decide +kernel, rfl⟩, 102, rfl, ⟨by decide +kernel, rfl⟩, vprb 4 (by decide), ?_⟩
  refine h _ _ _ (start_inv hX ?_ ?_ ?_ (fun j hj => ?_) ?_ (fun k hk => ?_) (fun j hj k => ?_) rfl rfl rfl rfl rfl rfl rfl rfl rfl rfl rfl rfl rfl rfl)
  · repeat (first | exact fun _ _ => rfl | refine lo_sw ?_ (by decide))
  · repeat (first | refine lo_wr ?_ (by decide) | refine lo_rz ?_ (by decide) | exact fun _ _ => rfl)
  · repeat (first | refine lo_w ?_ (by decide) | refine lo_row ?_ (by decide) | exact fun _ _ => rfl)
  · have : j = 0 ∨ j = 1 ∨ j = 2 ∨ j = 3 ∨ j = 4 ∨ j = 5 ∨ j = 6 ∨ j = 7 ∨ j = 8 ∨ j = 9 ∨ j = 10 ∨ j = 11 ∨ j = 12 ∨ j = 13 ∨ j = 14 ∨ j = 15 ∨ j = 16 ∨ j = 17 ∨ j = 18 ∨ j = 19 ∨ j = 20 ∨ j = 21 ∨ j = 22 ∨ j = 23 ∨ j = 24 := by omega
    rcases this with rfl | rfl | rfl | rfl | rfl | rfl | rfl | rfl | rfl | rfl | rfl | rfl | rfl | rfl | rfl | rfl | rfl | rfl | rfl | rfl | rfl | rfl | rfl | rfl | rfl <;> rfl
  · repeat (first | exact hX.2.2.1 | refine hi_wr ?_ (by decide) | refine hi_rz ?_)
  · have : k = 0 ∨ k = 1 ∨ k = 2 ∨ k = 3 ∨ k = 4 ∨ k = 5 ∨ k = 6 ∨ k = 7 ∨ k = 8 ∨ k = 9 ∨ k = 10 ∨ k = 11 ∨ k = 12 ∨ k = 13 ∨ k = 14 ∨ k = 15 ∨ k = 16 ∨ k = 17 ∨ k = 18 ∨ k = 19 ∨ k = 20 ∨ k = 21 ∨ k = 22 ∨ k = 23 ∨ k = 24 ∨ k = 25 ∨ k = 26 ∨ k = 27 ∨ k = 28 ∨ k = 29 ∨ k = 30 ∨ k = 31 ∨ k = 32 ∨ k = 33 ∨ k = 34 ∨ k = 35 ∨ k = 36 ∨ k = 37 ∨ k = 38 ∨ k = 39 := by omega
    rcases this with rfl | rfl | rfl | rfl | rfl | rfl | rfl | rfl | rfl | rfl | rfl | rfl | rfl | rfl | rfl | rfl | rfl | rfl | rfl | rfl | rfl | rfl | rfl | rfl | rfl | rfl | rfl | rfl | rfl | rfl | rfl | rfl | rfl | rfl | rfl | rfl | rfl | rfl | rfl | rfl <;> rfl
  · have : j = 0 ∨ j = 1 ∨ j = 2 ∨ j = 3 ∨ j = 4 ∨ j = 5 ∨ j = 6 ∨ j = 7 ∨ j = 8 ∨ j = 9 ∨ j = 10 ∨ j = 11 ∨ j = 12 ∨ j = 13 ∨ j = 14 ∨ j = 15 ∨ j = 16 ∨ j = 17 ∨ j = 18 ∨ j = 19 ∨ j = 20 ∨ j = 21 ∨ j = 22 ∨ j = 23 := by omega
    rcases this with rfl | rfl | rfl | rfl | rfl | rfl | rfl | rfl | rfl | rfl | rfl | rfl | rfl | rfl | rfl | rfl | rfl | rfl | rfl | rfl | rfl | rfl | rfl | rfl <;> rfl
end IM
