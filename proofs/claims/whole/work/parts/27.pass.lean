/-! PURE: a whole day, many; THE CLASS: World.pass -/
def noB : Nat → Bool := fun _ => false
def dayS (ct : Ct) (home N : Nat) (f : Row) : Lks :=
  if f 5 = 0 then lots (trL ct home f) home N (trAll ct home f N, noB, noB) (min (Int32.toNatClampNeg (f 4)) N) else sgns (trL ct home f) home N (trAll ct home f N, noB, noB) (min (Int32.toNatClampNeg (f 4)) N)
/-- the day's end: days since, and the day -/
def finR (N : Nat) (f : Row) (ca : Nat → Bool) : Row := fun k => if k = 2 then f 2 + 1 else if k % 13 = 0 ∧ 13 ≤ k ∧ k / 13 ≤ N then (if ca (k / 13 - 1) = true then 0 else f k + 1) else f k
def dayF (ct : Ct) (home N : Nat) (f : Row) : Row := finR N (dayS ct home N f).1 (dayS ct home N f).2.2
def dayC (ct : Ct) (home N : Nat) (f : Row) : Int32 := cntB (dayS ct home N f).2.2 N
def dstep (ct : Ct) (home N : Nat) (p : Row × Int32) : Row × Int32 := (dayF ct home N p.1, p.2 + dayC ct home N p.1)
def pasF (ct : Ct) (home N : Nat) (f : Row) (n : Nat) : Row × Int32 := itr (dstep ct home N) (f, 0) n
theorem pasF_0 (ct : Ct) (home N : Nat) (f : Row) : pasF ct home N f 0 = (f, 0) := itr_0 _ _
theorem pasF_s (ct : Ct) (home N : Nat) (f : Row) (n : Nat) : pasF ct home N f (n + 1) = dstep ct home N (pasF ct home N f n) := itr_s _ _ _
/-- no wrap-around where one's claim is held against its cost -/
def Bd (ct : Ct) (home N : Nat) (f : Row) : Prop := ∀ i, i < N → i ≠ home → (0 < trA ct i (trAll ct home f i) - trC ct i (trAll ct home f i) ↔ trC ct i (trAll ct home f i) < trA ct i (trAll ct home f i))
theorem finR_2 {N : Nat} {f : Row} {ca : Nat → Bool} : finR N f ca 2 = f 2 + 1 := by unfold finR; rw [if_pos rfl]
theorem finR_6 {N i : Nat} {f : Row} {ca : Nat → Bool} (hi : i < N) : finR N f ca (tI i 6) = if ca i = true then 0 else f (tI i 6) + 1 := by
  have h1 : tI i 6 = 13 * (i + 1) := by unfold tI; omega
  have h2 : tI i 6 / 13 = i + 1 := by rw [h1]; exact Nat.mul_div_cancel_left _ (by decide)
  unfold finR
  rw [if_neg (by omega), if_pos ⟨by rw [h1]; exact Nat.mul_mod_right _ _, by omega, by omega⟩, h2]
  rfl
theorem finR_e {N k : Nat} {f : Row} {ca : Nat → Bool} (h2 : k ≠ 2) (h : k % 13 ≠ 0 ∨ k < 13 ∨ N < k / 13) : finR N f ca k = f k := by
  unfold finR
  rw [if_neg h2, if_neg]
  rintro ⟨a, b, c⟩
  omega
/-- out of the travelling: the world before the looks -/
theorem LK.of {ct : Ct} {home N w : Nat} {f : Row} {mem : ab_N} (hB : Bd ct home N f) (hR : RW mem w N (trAll ct home f N)) (hO : Own ct home f mem w N) : LK mem w N home (trL ct home f) (trAll ct home f N) noB noB := by
  refine ⟨hR.1, fun i k hi hk => hR.2.1 i k hi (by omega), fun i hi => hR.2.1 i 6 hi (by decide), hR.2.2, fun i hi => ?_, fun i hi hh => ?_, fun i hi => by cases hi⟩
  · rw [hO.1 i hi]
    by_cases hh : i = home
    · rw [if_pos hh, if_pos (Or.inr hh)]
    · rw [if_neg hh, if_neg (by intro q; rcases q with q | q; exact absurd q (fun z => by cases z); exact hh q)]
  · rw [hO.2 i hi hh]
    unfold trL
    rw [if_neg hh]
    by_cases hc : trC ct i (trAll ct home f i) < trA ct i (trAll ct home f i)
    · rw [if_pos hc, if_pos ((hB i hi hh).mpr hc)]
    · rw [if_neg hc, if_neg (fun q => hc ((hB i hi hh).mp q))]
theorem trAll_keep {ct : Ct} {home k : Nat} {f : Row} (h0 : k ≠ 0) (hk : k < 7) : ∀ n, trAll ct home f n k = f k
  | 0 => by rw [trAll]
  | n + 1 => by rw [trAll, trF_e h0 (by unfold tI; omega) (by unfold tI; omega) (by unfold tI; omega), trAll_keep h0 hk n]
theorem cnt_no : ∀ n, cntB noB n = 0
  | 0 => rfl
  | n + 1 => by rw [cntB, cnt_no n]; rfl
/-- one more day since, for the first n travellers -/
def incD (mem : ab_N) (w n : Nat) : ab_N := fun b j => if j = 6 ∧ w + 3 ≤ b ∧ b < w + 3 + 2 * n ∧ (b - w - 3) % 2 = 0 then mem b j + 1 else mem b j
theorem incD_0 (mem : ab_N) (w : Nat) : incD mem w 0 = mem := by
  funext b j; unfold incD; rw [if_neg (by omega)]
theorem incD_s (mem : ab_N) (w n : Nat) : ab_w (incD mem w n) (w + 3 + 2 * n) 6 (incD mem w n (w + 3 + 2 * n) 6 + 1) = incD mem w (n + 1) := by
  funext b j
  by_cases hb : b = w + 3 + 2 * n ∧ j = 6
  · obtain ⟨rfl, rfl⟩ := hb
    rw [w_eq]
    unfold incD
    rw [if_neg (by omega), if_pos (by omega)]
  · rw [w_ne _ _ (by omega)]
    unfold incD
    by_cases hc : j = 6 ∧ w + 3 ≤ b ∧ b < w + 3 + 2 * n ∧ (b - w - 3) % 2 = 0
    · rw [if_pos hc, if_pos (by omega)]
    · rw [if_neg hc, if_neg (by omega)]
theorem incD_in {mem : ab_N} {w n i : Nat} (hi : i < n) : incD mem w n (w + 3 + 2 * i) 6 = mem (w + 3 + 2 * i) 6 + 1 := by unfold incD; rw [if_pos (by omega)]
theorem incD_j {mem : ab_N} {w n b j : Nat} (hj : j ≠ 6) : incD mem w n b j = mem b j := by unfold incD; rw [if_neg (by omega)]
theorem incD_b {mem : ab_N} {w n b j : Nat} (hb : b < w + 3 ∨ w + 3 + 2 * n ≤ b ∨ (b - w - 3) % 2 ≠ 0) : incD mem w n b j = mem b j := by unfold incD; rw [if_neg (by omega)]
theorem LK.fin {mem : ab_N} {w N home : Nat} {ly f : Row} {se ca : Nat → Bool} (h : LK mem w N home ly f se ca) : RW (incD (ab_w mem w 6 (mem w 6 + 1)) w N) w N (finR N f ca) := by
  obtain ⟨⟨h1, h2, h3, h4, h5, h6, h7, h8⟩, h9, h10, h11, h12, h13, h14⟩ := h
  have ow : ∀ k, k ≠ 6 → incD (ab_w mem w 6 (mem w 6 + 1)) w N w k = mem w k := fun k hk => by rw [incD_b (by omega), w_ne _ _ (Or.inr hk)]
  have o6 : incD (ab_w mem w 6 (mem w 6 + 1)) w N w 6 = mem w 6 + 1 := by rw [incD_b (by omega), w_eq]
  have fe : ∀ k, k ≠ 2 → k < 7 → finR N f ca k = f k := fun k a b => finR_e a (by omega)
  refine ⟨⟨by rw [ow 7 (by decide), fe 0 (by decide) (by decide)]; exact h1, by rw [ow 2 (by decide)]; exact h2, by rw [fe 1 (by decide) (by decide)]; exact h3, by rw [o6, finR_2, h4], by rw [ow 3 (by decide), fe 3 (by decide) (by decide)]; exact h5, by rw [ow 4 (by decide), fe 4 (by decide) (by decide)]; exact h6, by rw [ow 5 (by decide), fe 5 (by decide) (by decide)]; exact h7, by rw [ow 8 (by decide), fe 6 (by decide) (by decide)]; exact h8⟩, fun i k hi hk => ?_, fun i j hi hj => ?_⟩
  · by_cases k6 : k = 6
    · subst k6
      rw [incD_in hi, w_ne _ _ (Or.inl (by omega)), h10 i hi, finR_6 hi]
      by_cases hc : ca i = true
      · rw [if_pos hc, if_pos hc]; decide
      · rw [if_neg hc, if_neg hc]
    · rw [incD_j k6, w_ne _ _ (Or.inl (by omega)), h9 i k hi (by omega), finR_e (by unfold tI; omega) (by unfold tI; omega)]
  · rw [incD_b (by omega), w_ne _ _ (Or.inl (by omega)), h11 i j hi hj, finR_e (by unfold tI; omega) (by unfold tI; omega)]
theorem Fr.inc {w : Nat} {mem : ab_N} {n : Nat} (hn : n ≤ 8) : Fr w mem (incD mem w n) := ⟨fun a ha _ => by funext j; exact incD_b (by omega), by funext j; exact incD_b (by omega), incD_b (by omega)⟩
section XP
variable {l : Launch} {G : ab_G} {ol : ab_Ol} {d : Nat} {sh : ab_S} {rf : ab_R} {nx : Nat} {K : ab_K}
set_option maxHeartbeats 4000000 in
theorem s_pass (hS : St sh rf nx) {w N home n Lk : Nat} {f : Row} {ct : Ct} {TI : ab_N → Prop} {mem : ab_N} (hw : Wd w) (hN : N ≤ 8) (hn : n < 2 ^ 30) (hC : CostOK l G ol sh rf nx w TI ct) (hT : TI mem) (hR : RW mem w N f) (hA : mem w 10 = absV home) (hL : Lk ≤ 8) (h4 : f 4 = nI Lk)
    (hB : ∀ i, i < n → Bd ct home N (pasF ct home N f i).1) (hk4 : ∀ i, i < n → (pasF ct home N f i).1 4 = nI Lk)
    (h : ∀ mem', Fr w mem mem' → RW mem' w N (pasF ct home N f n).1 → K (some (.int (pasF ct home N f n).2)) sh rf mem' nx) : ab_Cx l G ol (d + 5) mWo_pass [.ref w, .int (nI n)] sh rf mem nx K := by
  suffices loop : ∀ r i, i + r = n → ∀ mem', Fr w mem mem' → RW mem' w N (pasF ct home N f i).1 → ∀ u4, ab_Go l G ol (d + 4) mWo_pass (ab_mc mWo_pass) (ab_ms mWo_pass) (fun r sh rf mem nx _ _ => K r sh rf mem nx) 4 [.ref w, .int (nI n), .int (pasF ct home N f i).2, .int (nI i), u4] [] sh rf mem' nx 0 0 from
    e_mWo_pass (by have := loop n 0 (by omega) mem Fr.rfl (by rw [pasF_0]; exact hR) (.retAddr 0); rw [pasF_0] at this; exact this)
  intro r
  induction r with
  | zero =>
    intro i hi mem' hF hR' u4
    have : i = n := by omega
    subst this
    exact h_mWo_pass_4 ⟨fun _ => ⟨trivial, h mem' hF hR'⟩, fun q => absurd (Int32.le_refl _) q⟩
  | succ r ih =>
    intro i hi mem1 hF hR1 u4
    have hin : i < n := by omega
    have hB1 := hB i hin
    have h41 := hk4 i hin
    have hns := pasF_s ct home N f i
    have ihi := ih (i + 1) (by omega)
    rw [hns] at ihi
    generalize pasF ct home N f i = g at *
    have cl4 : Int32.toNatClampNeg (g.1 4) = Lk := by rw [h41]; exact nI_clamp (by omega)
    -- behind the looks: the rest of the day
    have rest : ∀ mem2 (c : Int32), Fr w mem mem2 → LK mem2 w N home (trL ct home g.1) (dayS ct home N g.1).1 (dayS ct home N g.1).2.1 (dayS ct home N g.1).2.2 → c = dayC ct home N g.1 → ∀ u4, u4 = Value.int 0 → ab_Go l G ol (d + 4) mWo_pass (ab_mc mWo_pass) (ab_ms mWo_pass) (fun r sh rf mem nx _ _ => K r sh rf mem nx) 47 [.ref w, .int (nI n), .int (g.2 + c), .int (nI i), u4] [] sh rf (ab_w mem2 w 6 (mem2 w 6 + 1)) nx 0 0 := by
      intro mem2 c hF2 hL2 hc u4 hu
      subst hu
      subst hc
      suffices lp : ∀ q k, k + q = N → ab_Go l G ol (d + 4) mWo_pass (ab_mc mWo_pass) (ab_ms mWo_pass) (fun r sh rf mem nx _ _ => K r sh rf mem nx) 47 [.ref w, .int (nI n), .int (g.2 + dayC ct home N g.1), .int (nI i), .int (nI k)] [] sh rf (incD (ab_w mem2 w 6 (mem2 w 6 + 1)) w k) nx 0 0 by
        have := lp N 0 (by omega)
        rw [incD_0] at this
        exact this
      intro q
      induction q with
      | zero =>
        intro k hk
        have : k = N := by omega
        subst this
        have hRf := hL2.fin
        refine h_mWo_pass_47 ⟨wd_is hS hw, fun _ => ?_, fun q => absurd (by rw [hRf.1.2.1]; exact Int32.le_refl _) q⟩
        rw [nI_1]
        exact ihi _ ((hF2.trans (Fr.z7 (by decide))).trans (Fr.inc hN)) hRf _
      | succ q ihq =>
        intro k hk
        have hkN : k < N := by omega
        have hm2 : incD (ab_w mem2 w 6 (mem2 w 6 + 1)) w k w 2 = nI N := by rw [incD_b (by omega), w_ne _ _ (Or.inr (by decide))]; exact hL2.1.2.1
        refine h_mWo_pass_47 ⟨wd_is hS hw, fun q => absurd q (by rw [hm2]; exact nI_ge hkN (by omega)), fun _ => ⟨wd_is hS hw, wd_acc hS hw (i := k) (by omega) ⟨td_is hS (wd_td hw (by omega)), td_is hS (wd_td hw (by omega)), ?_⟩⟩⟩
        have := ihq (k + 1) (by omega)
        rw [← incD_s, ← nI_1] at this
        exact this
    refine h_mWo_pass_4 ⟨fun q => absurd q (nI_ge hin (by omega)), fun _ => ⟨wd_is hS hw, s_travel (d := d) hS hw hN hC (hC.2 _ _ hF hT) hR1 (by rw [hF.2.2]; exact hA) fun mem2 hF2 hR2 hO2 => ⟨rfl, wd_is hS hw, ?_⟩⟩⟩
    have hL2 := LK.of hB1 hR2 hO2
    have hF12 := hF.trans hF2
    have h5 : mem2 w 5 = g.1 5 := by rw [hR2.1.2.2.2.2.2.2.1]; exact trAll_keep (by decide) (by decide) N
    have h4t : trAll ct home g.1 N 4 = nI Lk := (trAll_keep (by decide) (by decide) N).trans h41
    refine ⟨fun q => ⟨wd_is hS hw, s_lookBySigns (d := d + 1) (s := (trAll ct home g.1 N, noB, noB)) hS hw hN hL h4t hL2 fun mem3 hF3 hL3 => ⟨_, rfl, wd_is hS hw, wd_is hS hw, ?_⟩⟩, fun q => ⟨wd_is hS hw, s_lookByLot (d := d + 2) (s := (trAll ct home g.1 N, noB, noB)) hS hw hN hL h4t hL2 fun mem3 hF3 hL3 => ⟨_, rfl, wd_is hS hw, wd_is hS hw, ?_⟩⟩⟩
    · have ed : dayS ct home N g.1 = sgns (trL ct home g.1) home N (trAll ct home g.1 N, noB, noB) (min Lk N) := by
        unfold dayS; rw [if_neg (by rw [← h5]; exact q), cl4]
      refine rest mem3 _ (hF12.trans hF3) (by rw [ed]; exact hL3) ?_ _ rfl
      unfold dayC
      rw [ed, cnt_no, Int32.sub_zero]
    · have ed : dayS ct home N g.1 = lots (trL ct home g.1) home N (trAll ct home g.1 N, noB, noB) (min Lk N) := by
        unfold dayS; rw [if_pos (by rw [← h5]; exact q), cl4]
      refine rest mem3 _ (hF12.trans hF3) (by rw [ed]; exact hL3) ?_ _ rfl
      unfold dayC
      rw [ed, cnt_no, Int32.sub_zero]
end XP
