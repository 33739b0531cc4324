/-! THE CLASS: the tape, sheets, slots, rows, images -/
/-- byte k (0 .. 3) of a number -/
def byt (x : Int32) (k : Nat) : Int32 := nI (x.toBitVec.toNat / 2 ^ (24 - 8 * k) % 256)
def fdT (T : Row) (L : Nat) (a b c : Int32) : Row := fun j => if L ≤ j ∧ j < L + 4 then byt a (j - L) else if L + 4 ≤ j ∧ j < L + 8 then byt b (j - (L + 4)) else if L + 8 ≤ j ∧ j < L + 12 then byt c (j - (L + 8)) else T j
def pbT (T : Row) (L : Nat) (a : Int32) : Row := fun j => if L ≤ j ∧ j < L + 4 then byt a (j - L) else T j
theorem byt_0 (x : Int32) : (Int32.toUInt32 x >>> (Int32.toUInt32 (24 : Int32) &&& Int32.toUInt32 31)).toInt32 = byt x 0 := by
  have h := pk_ushr x 24 24 (by decide)
  have hx : x.toBitVec.toNat < 2 ^ 32 := x.toBitVec.isLt
  have : ∀ y : Int32, y.toBitVec.toNat < 256 → y = nI y.toBitVec.toNat := fun y hy => by
    apply Int32.toBitVec_inj.mp
    apply BitVec.eq_of_toNat_eq
    rw [pk_tn (by omega)]
  refine (this _ (by rw [h]; omega)).trans ?_
  rw [h]
  unfold byt
  congr 1
  omega
theorem byt_s (x s : Int32) (k : Nat) (m : Nat) (hs : ((s.toUInt32 &&& Int32.toUInt32 31).toBitVec % 32).toNat = m) (hm : m = 24 - 8 * k) : (Int32.toUInt32 x >>> (Int32.toUInt32 s &&& Int32.toUInt32 31)).toInt32 &&& 255 = byt x k := by
  rw [pk_and _ 8 (by decide), pk_ushr x s m hs, hm]
  rfl
theorem byt_3 (x : Int32) : x &&& 255 = byt x 3 := by
  rw [pk_and _ 8 (by decide)]
  unfold byt
  congr 1
  omega
def rbeg (mem : ab_N) (r : Nat) (s n : Int32) : ab_N := fun b k => if b = r ∧ k = 0 then s else if b = r ∧ k = 1 then n else if b = r + 1 ∧ k < 24 then 0 else mem b k
def rbec (mem : ab_N) (r o : Nat) : ab_N := fun b k => if b = r ∧ k < 2 then mem o k else if b = r + 1 ∧ k < 24 then mem (o + 1) k else mem b k
def wrO (mem : ab_N) (a k : Nat) (o : Option Int32) : ab_N := match o with
  | none => mem
  | some x => ab_w mem a k x
def mrk (so : Int32) (ok : Prop) [Decidable ok] (v : Int32) : Int32 × Option Int32 := if so = -1 then (-1000000011, none) else if ¬ ok then (-1000000013, none) else if so = 0 then (if v = -1000000005 then (-1000000012, none) else (1, some v.toInt16.toInt32)) else if ¬ v = -1000000005 ∧ ¬ (-99999 ≤ v ∧ v ≤ 99999) then (-1000000001, none) else (1, some v)
def h99 (v : Int32) : Int32 := if 0 < (if v < 99 then v else 99) then (if v < 99 then v else 99) else 0
def po1 (pl : Row) (i : Nat) (p : Row × Int32) : Row × Int32 := if pl i = -1000000005 then p else (upd p.1 (tI i 1) (h99 (pl i)), if h99 (pl i) = p.1 (tI i 1) then p.2 else p.2 + 1)
def poF (f : Row) (pl : Row) : Nat → Row × Int32
  | 0 => (f, 0)
  | n + 1 => po1 pl n (poF f pl n)
def rdG (f : Row) (N : Nat) (pl : Row) (k : Nat) : Nat → Int32
  | 0 => -1000000005
  | r + 1 => if ¬ pl k = -1000000005 ∧ (N ≤ k ∨ ¬ pl k = f (tI k 7)) then nI k else rdG f N pl (k + 1) r
/-- so many places from here on -/
def hasP (z : Nat) (p m : Int32) : Prop := ∃ a b, p = nI a ∧ m = nI b ∧ a + b ≤ z ∧ a < 2 ^ 31 ∧ b < 2 ^ 31
def slC (i : Nat) : Nat := 76 + 5 * i
def otA (thing : Int32) : Int32 := if thing = 0 then -1000000011 else -1000000012
def ckG (ct : Ct) (N : Nat) (g : Row) (wt : Row) (many i : Nat) : Nat → Int32
  | 0 => if 2 * i = many then 0 else nI (1 + 2 * i)
  | r + 1 => if many ≤ 2 * i ∨ ¬ wt (2 * i) = smF (pasF ct 8 N g (i + 1)).1 4 N then nI (1 + 2 * i) else if many ≤ 2 * i + 1 ∨ ¬ wt (2 * i + 1) = padF (pasF ct 8 N g (i + 1)).1 N then nI (1 + (2 * i + 1)) else ckG ct N g wt many (i + 1) r
theorem fa_us {f : Nat → Int32} {i : Nat} {x : Int32} (h : f i = x) : upd f i x = f := by
  funext k
  by_cases e : k = i
  · subst e; rw [pk_us]; exact h.symm
  · exact pk_un e
section XS
variable {l : Launch} {G : ab_G} {ol : ab_Ol} {d : Nat} {sh : ab_S} {rf : ab_R} {nx : Nat} {K : ab_K} {mem : ab_N} {N : Nat} {f : Row}
theorem s_putBytes (hS : St sh rf nx) {L : Nat} (hL : L + 4 ≤ 96) {x : Int32} (h : K none sh rf (ab_row mem 62 (pbT (mem 62) L x)) nx) : ab_Cx l G ol (d + 1) mX_putBytes [.ref 0, .int (nI L), .int x] sh rf mem nx K := by
  have i0 : ab_is sh nx 0 8 := is_of hS rfl rfl
  have i62 : ab_is sh nx 62 10 := is_of hS rfl rfl
  have v : ∀ k, k < 96 → vp_in (nI k) (sh 62).2 := fun k hk => in_of hS rfl rfl (vp_in_nI hk (by decide))
  refine e_mX_putBytes ⟨i0, rd_of hS rfl rfl ⟨i62, v L (by omega), i0, rd_of hS rfl rfl ⟨i62, ?_⟩⟩⟩
  rw [show nI L + 1 = nI (L + 1) from nI_add L 1]
  refine ⟨v (L + 1) (by omega), i0, rd_of hS rfl rfl ⟨i62, ?_⟩⟩
  rw [show nI L + 2 = nI (L + 2) from nI_add L 2]
  refine ⟨v (L + 2) (by omega), i0, rd_of hS rfl rfl ⟨i62, ?_⟩⟩
  rw [show nI L + 3 = nI (L + 3) from nI_add L 3]
  refine ⟨v (L + 3) (by omega), ?_⟩
  rw [byt_0, byt_s x 16 1 16 (by decide) (by decide), byt_s x 8 2 8 (by decide) (by decide), byt_3, cl_nI (by omega), cl_nI (by omega), cl_nI (by omega), cl_nI (by omega)]
  have e : ∀ m2, m2 = ab_row mem 62 (pbT (mem 62) L x) → K none sh rf m2 nx := fun m2 q => q ▸ h
  refine e _ ?_
  funext b k
  by_cases hb : b = 62
  · subst hb
    rw [show ab_row mem 62 (pbT (mem 62) L x) 62 = pbT (mem 62) L x from if_pos rfl, ab_w_self, ab_w_self, ab_w_self, ab_w_self]
    unfold pbT
    by_cases h0 : k = L
    · subst h0; rw [pk_un (by omega), pk_un (by omega), pk_un (by omega), pk_us, if_pos (by omega)]; congr 1; omega
    by_cases h1 : k = L + 1
    · subst h1; rw [pk_un (by omega), pk_un (by omega), pk_us, if_pos (by omega)]; congr 1; omega
    by_cases h2 : k = L + 2
    · subst h2; rw [pk_un (by omega), pk_us, if_pos (by omega)]; congr 1; omega
    by_cases h3 : k = L + 3
    · subst h3; rw [pk_us, if_pos (by omega)]; congr 1; omega
    rw [pk_un h3, pk_un h2, pk_un h1, pk_un h0, if_neg (by omega)]
  · simp only [ab_row, if_neg hb]
    rw [ab_w_ne _ _ _ hb, ab_w_ne _ _ _ hb, ab_w_ne _ _ _ hb, ab_w_ne _ _ _ hb]
theorem pbT3 {T : Row} {L : Nat} {a b c : Int32} : pbT (pbT (pbT T L a) (L + 4) b) (L + 8) c = fdT T L a b c := by
  funext j
  show (if L + 8 ≤ j ∧ j < L + 8 + 4 then byt c (j - (L + 8)) else if L + 4 ≤ j ∧ j < L + 4 + 4 then byt b (j - (L + 4)) else if L ≤ j ∧ j < L + 4 then byt a (j - L) else T j) = if L ≤ j ∧ j < L + 4 then byt a (j - L) else if L + 4 ≤ j ∧ j < L + 8 then byt b (j - (L + 4)) else if L + 8 ≤ j ∧ j < L + 12 then byt c (j - (L + 8)) else T j
  by_cases h2 : L + 8 ≤ j ∧ j < L + 8 + 4
  · rw [if_pos h2, if_neg (by omega : ¬ (L ≤ j ∧ j < L + 4)), if_neg (by omega : ¬ (L + 4 ≤ j ∧ j < L + 8)), if_pos (by omega : L + 8 ≤ j ∧ j < L + 12)]
  · rw [if_neg h2]
    by_cases h1 : L + 4 ≤ j ∧ j < L + 4 + 4
    · rw [if_pos h1, if_neg (by omega : ¬ (L ≤ j ∧ j < L + 4)), if_pos (by omega : L + 4 ≤ j ∧ j < L + 8)]
    · rw [if_neg h1, if_neg (by omega : ¬ (L + 4 ≤ j ∧ j < L + 8)), if_neg (by omega : ¬ (L + 8 ≤ j ∧ j < L + 12))]
theorem x_feed (hS : St sh rf nx) {L : Nat} (h96 : L ≤ 96) (hL : mem 0 7 = nI L) {a b c : Int32} (hF : ¬ L + 12 ≤ 96 → K (some (.int (-1000000003))) sh rf mem nx) (hK : L + 12 ≤ 96 → K (some (.int (nI (L + 12)))) sh rf (ab_w (ab_row mem 62 (fdT (mem 62) L a b c)) 0 7 (nI (L + 12))) nx) : ab_Cx l G ol (d + 2) mX_feed [.ref 0, .int a, .int b, .int c] sh rf mem nx K := by
  have i0 : ab_is sh nx 0 8 := is_of hS rfl rfl
  have r0 : ∀ (m : ab_N) (T : Row), ab_row m 62 T 0 = m 0 := fun m T => if_neg (by decide)
  have r62 : ∀ (m : ab_N) (T : Row), ab_row m 62 T 62 = T := fun m T => if_pos rfl
  have rr : ∀ (m : ab_N) (T T' : Row), ab_row (ab_row m 62 T) 62 T' = ab_row m 62 T' := fun m T T' => by
    funext q; unfold ab_row; by_cases h : q = 62 <;> simp [h]
  refine e_mX_feed ⟨i0, ?_⟩
  rw [hL, show nI L + 12 = nI (L + 12) from nI_add L 12]
  refine ⟨fun q => ?_, fun q => ⟨trivial, hF fun z => q (nI_le (b := 96) z (by decide))⟩⟩
  have hq : L + 12 ≤ 96 := (nI_leI (b := 96) (by omega) (by decide)).mp q
  refine ⟨i0, i0, s_putBytes (d := d) hS (by omega) ⟨rfl, i0, i0, ?_⟩⟩
  rw [r0, hL, show nI L + 4 = nI (L + 4) from nI_add L 4]
  refine s_putBytes (d := d) hS (by omega) ⟨rfl, i0, i0, ?_⟩
  rw [rr, r62, r0, hL, show nI L + 8 = nI (L + 8) from nI_add L 8]
  refine s_putBytes (d := d) hS (by omega) ⟨rfl, i0, i0, i0, trivial, ?_⟩
  rw [rr, r62, r0, hL, w_eq, pbT3, show nI L + 12 = nI (L + 12) from nI_add L 12]
  exact hK hq
theorem x_trim (hS : St sh rf nx) {L : Nat} (h96 : L ≤ 96) (hL : mem 0 7 = nI L) {n : Int32} (hB : ¬ (0 ≤ n ∧ n ≤ nI L) → K (some (.int (-1000000001))) sh rf mem nx) (hK : ∀ k, k ≤ L → n = nI k → K (some (.int n)) sh rf (ab_w mem 0 7 n) nx) : ab_Cx l G ol (d + 2) mX_trim [.ref 0, .int n] sh rf mem nx K := by
  have i0 : ab_is sh nx 0 8 := is_of hS rfl rfl
  refine e_mX_trim ⟨i0, by decide, ?_⟩
  rw [hL]
  refine s_within ⟨_, rfl, br1 (fun q => ⟨i0, trivial, ?_⟩) (fun q => ⟨trivial, hB q⟩)⟩
  obtain ⟨k, hk, e⟩ := rg_of (M := L) (by omega) q
  exact hK k hk e
theorem s_rbegin (hS : St sh rf nx) {r : Nat} (hr : Rd r) {s n : Int32} (h : K none sh rf (rbeg mem r s n) nx) : ab_Cx l G ol (d + 1) mRo_begin [.ref r, .int s, .int n] sh rf mem nx K := by
  have ir := rd_is hS hr
  suffices loop : ∀ q i, i + q = 24 → ab_Go l G ol d mRo_begin (ab_mc mRo_begin) (ab_ms mRo_begin) (fun r sh rf mem nx _ _ => K r sh rf mem nx) 12 [.ref r, .int s, .int n, .int (nI i)] [] sh rf (fun b k => if b = r ∧ k = 0 then s else if b = r ∧ k = 1 then n else if b = r + 1 ∧ k < i then 0 else mem b k) nx 0 0 by
    have e : ab_w (ab_w mem r 0 s) r 1 n = fun b k => if b = r ∧ k = 0 then s else if b = r ∧ k = 1 then n else if b = r + 1 ∧ k < 0 then 0 else mem b k := by
      funext b k
      by_cases hb : b = r
      · subst hb
        simp only [ab_w_self, upd]
        by_cases h0 : k = 0
        · subst h0; simp
        · by_cases h1 : k = 1
          · subst h1; simp
          · simp [h0, h1]
      · rw [ab_w_ne _ _ _ hb, ab_w_ne _ _ _ hb]; simp [hb]
    refine e_mRo_begin ⟨ir, ir, ?_⟩
    rw [e]
    exact loop 24 0 rfl
  intro q
  induction q with
  | zero =>
    intro i hi
    have : i = 24 := by omega
    subst this
    exact h_mRo_begin_12 ⟨fun _ => h, fun z => absurd (by decide) z⟩
  | succ q ih =>
    intro i hi
    refine h_mRo_begin_12 ⟨fun z => absurd z (nI_ge (b := 24) (by omega) (by decide)), fun _ => ⟨ir, rd_rd hS hr ⟨rd_is1 hS hr, rd_in hS hr (vp_in_nI (by omega) (by decide)), ?_⟩⟩⟩
    rw [nI_1, cl_nI (by omega)]
    have := ih (i + 1) (by omega)
    have e : ∀ m1 m2 : ab_N, m1 = m2 → ab_Go l G ol d mRo_begin (ab_mc mRo_begin) (ab_ms mRo_begin) (fun r sh rf mem nx _ _ => K r sh rf mem nx) 12 [.ref r, .int s, .int n, .int (nI (i + 1))] [] sh rf m1 nx 0 0 → ab_Go l G ol d mRo_begin (ab_mc mRo_begin) (ab_ms mRo_begin) (fun r sh rf mem nx _ _ => K r sh rf mem nx) 12 [.ref r, .int s, .int n, .int (nI (i + 1))] [] sh rf m2 nx 0 0 := fun m1 m2 q z => q ▸ z
    refine e _ _ ?_ this
    funext b k
    by_cases hb : b = r + 1
    · subst hb
      have nr : ¬ r + 1 = r := by omega
      rw [ab_w_self]
      simp only [upd, nr, false_and, if_false, true_and]
      by_cases hk : k = i
      · subst hk; simp
      · rw [if_neg hk]
        by_cases hk2 : k < i
        · rw [if_pos hk2, if_pos (by omega)]
        · rw [if_neg hk2, if_neg (by omega)]
    · rw [ab_w_ne _ _ _ hb]; simp [hb]
theorem s_rbecome (hS : St sh rf nx) {r o : Nat} (hr : Rd r) (ho : Rd o) (hro : r ≠ o) (h : K none sh rf (rbec mem r o) nx) : ab_Cx l G ol (d + 1) mRo_become [.ref r, .ref o] sh rf mem nx K := by
  have ir := rd_is hS hr
  have io := rd_is hS ho
  have n1 : o ≠ r + 1 := fun e => by
    have := (rd_0 r hr.2 hr.1).2.1
    rw [← e] at this
    have h3 := ho.1
    rw [this] at h3
    exact absurd h3 (by decide)
  have n2 : r ≠ o + 1 := fun e => by
    have := (rd_0 o ho.2 ho.1).2.1
    rw [← e] at this
    have h3 := hr.1
    rw [this] at h3
    exact absurd h3 (by decide)
  have c0 : Int32.toNatClampNeg (0 : Int32) = 0 := by decide
  have c24 : Int32.toNatClampNeg (24 : Int32) = 24 := by decide
  refine e_mRo_become ⟨io, ir, io, ir, io, rd_rd hS ho ⟨ir, rd_rd hS hr ⟨⟨rd_is1 hS ho, rd_is1 hS hr, by decide, by decide, by decide, by rw [rd_sh1 hS ho]; decide, by rw [rd_sh1 hS hr]; decide⟩, ?_⟩⟩⟩
  have e : ∀ m2, m2 = rbec mem r o → K none sh rf m2 nx := fun m2 q => q ▸ h
  refine e _ ?_
  rw [c0, c24]
  funext b k
  unfold rbec ab_row
  by_cases hb : b = r
  · subst hb
    rw [if_neg (by omega), ab_w_self]
    by_cases h0 : k = 0
    · subst h0; rw [pk_un (by decide), ab_w_self, pk_us, if_pos (by omega)]
    · by_cases h1 : k = 1
      · subst h1; rw [pk_us, if_pos (by omega), ab_w_ne _ _ _ (Ne.symm hro)]
      · rw [pk_un h1, ab_w_self, pk_un h0, if_neg (by omega), if_neg (by omega)]
  · by_cases hb1 : b = r + 1
    · subst hb1
      rw [if_pos rfl, if_neg (by omega)]
      by_cases hk : k < 24
      · rw [pk_cpy_in (by omega) (by omega), if_pos ⟨rfl, hk⟩, ab_w_ne _ _ _ (by omega), ab_w_ne _ _ _ (by omega)]
        congr 1; omega
      · rw [pk_cpy_out (by omega), if_neg (by omega), ab_w_ne _ _ _ (by omega), ab_w_ne _ _ _ (by omega)]
    · rw [if_neg hb1, if_neg (by omega), if_neg (by omega), ab_w_ne _ _ _ hb, ab_w_ne _ _ _ hb]
theorem x_sheet (hS : St sh rf nx) {s so n : Int32} (hB : ¬ ((0 ≤ s ∧ s ≤ 3) ∧ (-1 ≤ so ∧ so ≤ 1) ∧ (¬ so = -1 → n ≤ 24)) → K (some (.int (-1000000001))) sh rf mem nx) (hZ : (0 ≤ s ∧ s ≤ 3) ∧ (-1 ≤ so ∧ so ≤ 1) ∧ (¬ so = -1 → n ≤ 24) → ¬ so = -1 → n < 0 → K (some (.int (-1000000014))) sh rf mem nx) (hM : ∀ i, i < 4 → s = nI i → so = -1 → K (some (.int 0)) sh rf (rbeg mem (shC i) (-1) 0) nx) (hK : ∀ i k, i < 4 → k ≤ 24 → s = nI i → n = nI k → ¬ so = -1 → (-1 ≤ so ∧ so ≤ 1) → K (some (.int n)) sh rf (rbeg mem (shC i) so n) nx) : ab_Cx l G ol (d + 3) mX_sheet [.ref 0, .int s, .int so, .int n] sh rf mem nx K := by
  have i0 : ab_is sh nx 0 8 := is_of hS rfl rfl
  refine e_mX_sheet ⟨by decide, s_isSheet ⟨_, rfl, br0 (fun h1 => ⟨by decide, s_within ⟨_, rfl, br1 (fun h2 => ?_) (fun h2 => ⟨trivial, hB fun z => h2 z.2.1⟩)⟩⟩) (fun h1 => ⟨trivial, hB fun z => h1 z.1⟩)⟩⟩
  obtain ⟨i, hi, e⟩ := rg_of (M := 3) (by omega) h1
  have hi4 : i < 4 := by omega
  have hr := sh_rd hi4
  refine ⟨fun q => ⟨fun q2 => ⟨fun q3 => ⟨i0, ?_⟩, fun q3 => ⟨trivial, hZ ⟨h1, h2, fun _ => q2⟩ q (Int32.not_le.mp q3)⟩⟩, fun q2 => ⟨trivial, hB fun z => q2 (z.2.2 q)⟩⟩, fun q => ⟨i0, ?_⟩⟩
  · obtain ⟨k, hk, ek⟩ := rg_of (M := 24) (by omega) ⟨q3, q2⟩
    rw [e]
    exact sh_acc hS hi4 ⟨rd_is hS hr, s_rbegin (d := d + 1) hS hr ⟨rfl, trivial, hK i k hi4 hk e ek q h2⟩⟩
  · rw [e]
    exact sh_acc hS hi4 ⟨rd_is hS hr, s_rbegin (d := d + 1) hS hr ⟨rfl, trivial, hM i hi4 e q⟩⟩
theorem x_mark (hS : St sh rf nx) (hz : ∀ i, i < 4 → ∃ z, z ≤ 24 ∧ mem (shC i) 1 = nI z) {s p v : Int32} (hB : ¬ (0 ≤ s ∧ s ≤ 3) → K (some (.int (-1000000001))) sh rf mem nx) (hK : ∀ i, i < 4 → s = nI i → K (some (.int (mrk (mem (shC i) 0) (0 ≤ p ∧ p ≤ mem (shC i) 1 - 1) v).1)) sh rf (wrO mem (shC i + 1) (Int32.toNatClampNeg p) (mrk (mem (shC i) 0) (0 ≤ p ∧ p ≤ mem (shC i) 1 - 1) v).2) nx) : ab_Cx l G ol (d + 3) mX_mark [.ref 0, .int s, .int p, .int v] sh rf mem nx K := by
  have i0 : ab_is sh nx 0 8 := is_of hS rfl rfl
  refine e_mX_mark ⟨by decide, s_isSheet ⟨_, rfl, br1 (fun h1 => ?_) (fun h1 => ⟨trivial, hB h1⟩)⟩⟩
  obtain ⟨i, hi, e⟩ := rg_of (M := 3) (by omega) h1
  have hi4 : i < 4 := by omega
  have hr := sh_rd hi4
  have ir := rd_is hS hr
  have hk := hK i hi4 e
  obtain ⟨z, hz24, ez⟩ := hz i hi4
  rw [e]
  unfold mrk at hk
  refine ⟨i0, sh_acc hS hi4 ⟨ir, fun q => ⟨ir, by decide, s_within ⟨_, rfl, br1 (fun q2 => ?_) (fun q2 => ⟨trivial, ?_⟩)⟩⟩, fun q => ⟨trivial, ?_⟩⟩⟩
  · rw [if_neg q, if_neg (fun z => z q2)] at hk
    have vin : vp_in p (sh (shC i + 1)).2 := by
      rw [ez] at q2
      obtain ⟨j, hj, ej⟩ := ix_of (by omega) q2
      rw [ej]
      exact rd_in hS hr (vp_in_nI (by omega) (by decide))
    refine ⟨ir, fun q3 => ?_, fun q3 => ?_⟩
    · rw [if_neg q3] at hk
      refine ⟨fun q4 => ⟨ir, rd_rd hS hr ⟨rd_is1 hS hr, vin, trivial, ?_⟩⟩, fun q4 => ⟨by decide, s_within ⟨_, rfl, br1 (fun q5 => ⟨ir, rd_rd hS hr ⟨rd_is1 hS hr, vin, trivial, ?_⟩⟩) (fun q5 => ⟨trivial, ?_⟩)⟩⟩⟩
      · rw [if_neg (fun z => z.1 q4)] at hk; exact hk
      · rw [if_neg (fun z => z.2 q5)] at hk; exact hk
      · rw [if_pos ⟨q4, q5⟩] at hk; exact hk
    · rw [if_pos q3] at hk
      refine ⟨fun q4 => ⟨ir, rd_rd hS hr ⟨rd_is1 hS hr, vin, trivial, ?_⟩⟩, fun q4 => ⟨trivial, ?_⟩⟩
      · rw [if_neg q4] at hk; exact hk
      · rw [if_pos q4] at hk; exact hk
  · rw [if_neg q, if_pos q2] at hk; exact hk
  · rw [if_pos q] at hk; exact hk
end XS
