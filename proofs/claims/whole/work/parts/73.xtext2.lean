/-! CLASS: a text is made and kept -/
def shT (sh : ab_S) (nx n : Nat) : ab_S := ab_sw (ab_sw sh nx (10, n)) (nx + 1) (5, 0)
def rfT (rf : ab_R) (nx : Nat) : ab_R := ab_wr (ab_rz (ab_rz rf nx) (nx + 1)) (nx + 1) 2 (some nx)
theorem getD_enc (c : List Int32) (k : Nat) : (c.map enc).getD k 0 = enc (c.getD k 0) := by
  rw [List.getD_eq_getElem?_getD, List.getD_eq_getElem?_getD, List.getElem?_map]
  cases c[k]? with
  | none => decide
  | some v => rfl
section XM
variable {l : Launch} {G : ab_G} {ol : ab_Ol} {d : Nat} {sh : ab_S} {rf : ab_R} {mem : ab_N} {nx : Nat} {K : ab_K}
theorem shT_o {n a : Nat} (ha : a < nx) : shT sh nx n a = sh a := by unfold shT ab_sw; rw [if_neg (by omega), if_neg (by omega)]
theorem rfT_o {a : Nat} (ha : a < nx) : rfT rf nx a = rf a := by unfold rfT ab_wr ab_rz; rw [if_neg (by omega), if_neg (by omega), if_neg (by omega)]
theorem St.grow (hS : St sh rf nx) (hn : nx ≤ 900) {n T : Nat} {u : Option Nat} : St (shT sh nx n) (ab_wr (rfT rf nx) 2 T u) (nx + 2) := by
  obtain ⟨a, b, c, e⟩ := hS
  refine ⟨by omega, by omega, fun q hq => by rw [shT_o (by omega)]; exact c q hq, fun q k hq h2 => ?_⟩
  unfold ab_wr
  rw [if_neg h2, rfT_o (by omega)]
  exact e q k hq h2
theorem r_made (hS : St sh rf nx) (hn : nx ≤ 900) {c : List Int32} (hC : RC mem c) (hc : c.length ≤ 96) (h : ∀ mem', (∀ a, a < nx → mem' a = mem a) → (∀ k, k < c.length → mem' nx k = c.getD k 0) → mem' (nx + 1) 0 = mem 63 8 → mem' (nx + 1) 1 = mem 63 3 → K (some (.ref (nx + 1))) (shT sh nx c.length) (rfT rf nx) mem' (nx + 2)) : ab_Cx l G ol (d + 2) mRe_made [.ref 63] sh rf mem nx K := by
  have i := r_is hS
  have h126 := hS.1
  have cl : Int32.toNatClampNeg (mem 63 2) = c.length := by rw [hC.1, cl_nI (by omega)]
  have i1 : ∀ {x : Nat × Nat}, ab_is (ab_sw sh nx x) (nx + 1) 63 2 := is_sw i
  have e63 : (ab_row mem nx fun _ => 0) 63 = mem 63 := row_ne _ _ (by omega)
  refine e_mRe_made ⟨i, ⟨by decide, by rw [cl]; show 0 + c.length ≤ 99; omega⟩, by rw [hC.1]; exact nI_pos (by omega), by rw [cl]; omega, by unfold ab_old; omega, i1, ?_⟩
  refine ⟨64, by unfold ab_rz; rw [if_neg (by omega), hS.2.2.2 63 1 (by decide) (by decide)]; rfl, i1, ⟨is_sw (is_of hS rfl rfl), ⟨Nat.lt_succ_self _, by unfold ab_sw; rw [if_pos rfl]⟩, by decide, by decide, by rw [e63, hC.1]; exact nI_pos (by omega), ?_, ?_⟩, ⟨by decide, by rw [cl]; show 0 + c.length + 3 ≤ 99; omega⟩, by unfold ab_old; omega, is_sw i1, is_sw i1, ?_⟩
  · rw [e63, cl]
    have : (ab_sw sh nx (10, c.length) 64).2 = 96 := by unfold ab_sw; rw [if_neg (by omega)]; exact sh_of hS rfl rfl
    rw [this]
    show 0 + c.length ≤ 96
    omega
  · rw [e63, cl]
    unfold ab_sw
    rw [if_pos rfl]
    show 0 + c.length ≤ c.length
    omega
  · have i5 : ab_is (ab_sw (ab_sw sh nx (10, Int32.toNatClampNeg (mem 63 2))) (nx + 1) (5, 0)) (nx + 1 + 1) (nx + 1) 5 := is_nw
    refine e_mTe_init ⟨i5, i5, i5, ⟨rfl, ?_⟩⟩
    rw [cl]
    refine h _ (fun a ha => ?_) (fun k hk => ?_) ?_ ?_
    · rw [ab_w_ne _ _ _ (by omega), ab_w_ne _ _ _ (by omega), row_ne _ _ (by omega), row_ne _ _ (by omega), row_ne _ _ (by omega)]
    · rw [ab_w_ne _ _ _ (by omega), ab_w_ne _ _ _ (by omega), row_ne _ _ (by omega), row_at]
      unfold va_cpy
      rw [e63, cl, if_pos ⟨Nat.zero_le _, by show k < 0 + c.length; omega⟩, row_ne _ _ (by omega)]
      show mem 64 (0 + (k - 0)) = _
      rw [Nat.zero_add, Nat.sub_zero]
      exact hC.2 k hk
    · rw [w_ne _ _ (Or.inr (by decide)), w_eq, row_ne _ _ (by omega), row_ne _ _ (by omega), e63]
    · rw [w_eq, row_ne _ _ (by omega), row_ne _ _ (by omega), e63]
def FT (mem mem' : ab_N) : Prop := (∀ a, a ≠ 0 → a ≠ 63 → a ≠ 64 → mem' a = mem a) ∧ (∀ k, k ≠ 7 → mem' 0 k = mem 0 k) ∧ mem' 0 7 = 0
theorem x_text (hS : St sh rf nx) (hn : nx ≤ 900) {L T : Nat} (hL : L ≤ 96) (h7 : mem 0 7 = nI L) (h8 : mem 4 8 = nI T) (hT : T ≤ 14) (ht : ∀ j, ∃ q, q < 256 ∧ mem 62 j = nI q)
    (hno : (∀ w, ¬ KyP (mem 62) L w) → ∀ mem', FT mem mem' → K (some (.int (-100 - nI (skb (mem 62) L 0)))) sh rf mem' nx)
    (hfl : ∀ w, KyP (mem 62) L w → ∀ Mf, Rch (mem 62) L w (M0 (mem 62) L) Mf → Fl (mem 62) L w Mf → ∀ mem', FT mem mem' → K (some (.int (-100 - nI Mf.s))) sh rf mem' nx)
    (hfu : ∀ w, KyP (mem 62) L w → ∀ M, DoneP (mem 62) L w M → T = 14 → ∀ mem', FT mem mem' → K (some (.int (-1000000003))) sh rf mem' nx)
    (hok : ∀ w, KyP (mem 62) L w → ∀ M, DoneP (mem 62) L w M → T < 14 → (M.cd ++ M.st).length ≤ 96 → ∀ mem', (∀ a, a < nx → a ≠ 0 → a ≠ 4 → a ≠ 6 → a ≠ 63 → a ≠ 64 → mem' a = mem a) → (∀ k, k ≠ 7 → mem' 0 k = mem 0 k) → mem' 0 7 = 0 → (∀ k, k ≠ 8 → mem' 4 k = mem 4 k) → mem' 4 8 = nI (T + 1) → (∀ k, k ≠ w → mem' 6 k = mem 6 k) → mem' 6 w = nI T → (∀ k, k < (M.cd ++ M.st).length → mem' nx k = enc ((M.cd ++ M.st).getD k 0)) → mem' (nx + 1) 0 = nI w → mem' (nx + 1) 1 = nI M.na → K (some (.int (nI T))) (shT sh nx (M.cd ++ M.st).length) (ab_wr (rfT rf nx) 2 T (some (nx + 1))) mem' (nx + 2)) : ab_Cx l G ol 700 mX_text [.ref 0] sh rf mem nx K := by
  have i0 : ab_is sh nx 0 8 := is_of hS rfl rfl
  have h126 := hS.1
  have f62 : (ab_w mem 0 7 0) 62 = mem 62 := ab_w_ne _ _ _ (by decide)
  have ft : ∀ mem3, (∀ a, a ≠ 63 → a ≠ 64 → mem3 a = (ab_w mem 0 7 0) a) → FT mem mem3 := fun mem3 h => ⟨fun a a0 a1 a2 => by rw [h a a1 a2, ab_w_ne _ _ _ a0], fun k hk => by rw [h 0 (by decide) (by decide), w_ne _ _ (Or.inr hk)], by rw [h 0 (by decide) (by decide), w_eq]⟩
  refine e_mX_text ⟨i0, i0, i0, rd_of hS rfl rfl ⟨is_of hS rfl rfl, ?_⟩⟩
  rw [h7]
  refine r_isText hS hL (by rw [f62]; exact ht) (fun hk mem3 F h5 => ⟨_, rfl, fun z => absurd rfl z, fun _ => ⟨i0, rd_of hS rfl rfl ⟨is_of hS rfl rfl, trivial, ?_⟩⟩⟩) (fun w hk Mf hr hf mem3 F h5 => ⟨_, rfl, fun z => absurd rfl z, fun _ => ⟨i0, rd_of hS rfl rfl ⟨is_of hS rfl rfl, trivial, ?_⟩⟩⟩) (fun w hk M hd mem3 F e8 e3 hC hlen => ⟨_, rfl, fun _ => ⟨i0, ?_⟩, fun z => absurd z (by decide)⟩)
  · rw [f62] at hk h5
    rw [h5]
    exact hno hk mem3 (ft mem3 F)
  · rw [f62] at hk hr hf
    rw [h5]
    exact hfl w hk Mf hr hf mem3 (ft mem3 F)
  · rw [f62] at hk hd
    have hF := ft mem3 F
    have e48 : mem3 4 8 = nI T := by rw [hF.1 4 (by decide) (by decide) (by decide)]; exact h8
    have hw := hk.1
    refine rd_of hS rfl rfl ⟨is_of hS rfl rfl, fun q => ⟨i0, ?_⟩, fun q => ⟨trivial, ?_⟩⟩
    · rw [e48] at q
      have T14 : T < 14 := (nI_ltI (by omega) (by decide)).mp q
      refine rd_of hS rfl rfl ⟨is_of hS rfl rfl, i0, rd_of hS rfl rfl ⟨is_of hS rfl rfl, rd_of hS rfl rfl ⟨i0, rd_of hS rfl rfl ⟨is_of hS rfl rfl, ⟨by decide, by decide⟩, ?_⟩⟩⟩⟩
      refine r_made (d := 697) hS hn hC (by rw [List.length_map]; exact hlen) (fun mem4 G1 G2 G3 G4 => ⟨_, rfl, ?_⟩)
      rw [List.length_map] at G2 ⊢
      have hS2 := St.grow (n := (M.cd ++ M.st).length) (T := T) (u := some (nx + 1)) hS hn
      rw [e48, cl_nI (by omega)]
      have j0 : ab_is (shT sh nx (M.cd ++ M.st).length) (nx + 2) 0 8 := is_of hS2 rfl rfl
      refine ⟨is_of hS2 rfl rfl, ⟨by omega, by unfold shT ab_sw; rw [if_pos rfl]⟩, in_of (n := 14) hS2 rfl rfl (vp_in_nI T14 (by decide)), j0, rd_of hS2 rfl rfl ⟨is_of hS2 rfl rfl, rd_of hS2 rfl rfl ⟨j0, rd_of hS2 rfl rfl ⟨is_of hS2 rfl rfl, is_of hS2 rfl rfl, ?_⟩⟩⟩⟩
      have m8 : mem4 63 8 = nI w := by rw [G1 63 (by omega)]; exact e8
      rw [m8, cl_nI (by omega)]
      refine ⟨in_of (n := 3) hS2 rfl rfl (vp_in_nI hw (by decide)), j0, rd_of hS2 rfl rfl ⟨is_of hS2 rfl rfl, is_of hS2 rfl rfl, trivial, ?_⟩⟩
      have n46 : (ab_w mem4 6 w (nI T)) 4 8 = nI T := by rw [ab_w_ne _ _ _ (by decide), G1 4 (by omega)]; exact e48
      rw [n46, nI_1]
      refine hok w hk M hd T14 hlen _ (fun a a1 a2 a3 a4 a5 a6 => ?_) (fun k hk => ?_) ?_ (fun k hk => ?_) ?_ (fun k hk => ?_) ?_ (fun k hk => ?_) ?_ ?_
      · rw [ab_w_ne _ _ _ a3, ab_w_ne _ _ _ a4, G1 a a1]; exact hF.1 a a2 a5 a6
      · rw [ab_w_ne _ _ _ (by decide), ab_w_ne _ _ _ (by decide), G1 0 (by omega)]; exact hF.2.1 k hk
      · rw [ab_w_ne _ _ _ (by decide), ab_w_ne _ _ _ (by decide), G1 0 (by omega)]; exact hF.2.2
      · rw [w_ne _ _ (Or.inr hk), ab_w_ne _ _ _ (by decide), G1 4 (by omega)]; rw [hF.1 4 (by decide) (by decide) (by decide)]
      · rw [w_eq]
      · rw [ab_w_ne _ _ _ (by decide), w_ne _ _ (Or.inr hk), G1 6 (by omega)]; rw [hF.1 6 (by decide) (by decide) (by decide)]
      · rw [ab_w_ne _ _ _ (by decide), w_eq]
      · rw [ab_w_ne _ _ _ (by omega), ab_w_ne _ _ _ (by omega), G2 k hk]
        exact getD_enc _ k
      · rw [ab_w_ne _ _ _ (by omega), ab_w_ne _ _ _ (by omega), G3]; exact e8
      · rw [ab_w_ne _ _ _ (by omega), ab_w_ne _ _ _ (by omega), G4]; exact e3
    · rw [e48] at q
      have T14 : T = 14 := by
        rcases Nat.lt_or_ge T 14 with z | z
        · exact absurd (nI_lt (b := 14) z (by decide)) q
        · omega
      exact hfu w hk M hd T14 mem3 hF
end XM
