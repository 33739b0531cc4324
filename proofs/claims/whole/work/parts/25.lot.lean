theorem lot1_eq (ly : Row) (home N : Nat) (s : Lks) : ∃ t, lot1 ly home N s = lk ly home t (rowD s.1, s.2.1, s.2.2) := ⟨pick N (s.1 0), rfl⟩
theorem lot1_keep {ly : Row} {home N k : Nat} {s : Lks} (h0 : k ≠ 0) (hk : k < 7) : (lot1 ly home N s).1 k = s.1 k := by
  obtain ⟨t, e⟩ := lot1_eq ly home N s
  rw [e]
  have h1 := lk_keep (ly := ly) (home := home) (t := t) (s := (rowD s.1, s.2.1, s.2.2)) hk
  have h2 : (rowD s.1, s.2.1, s.2.2).1 k = s.1 k := rowD_ne h0
  exact h1.trans h2
theorem lots_keep {ly : Row} {home N k : Nat} {s : Lks} (h0 : k ≠ 0) (hk : k < 7) (n : Nat) : (lots ly home N s n).1 k = s.1 k := by
  induction n with
  | zero => rw [lots_0]
  | succ n ih => rw [lots_s, lot1_keep h0 hk, ih]
section XK
variable {l : Launch} {G : ab_G} {ol : ab_Ol} {d : Nat} {sh : ab_S} {rf : ab_R} {nx : Nat} {K : ab_K}
theorem wd_acc (hS : St sh rf nx) {w i : Nat} (hw : Wd w) (hi : i < 8) {C : Nat → Prop} (hk : C (w + 3 + 2 * i)) : ab_rd (rf w 1) fun b => ab_is sh nx b 26 ∧ vp_in (nI i) (sh b).2 ∧ ab_rd (rf b (Int32.toNatClampNeg (nI i))) C := by
  refine wd_rd1 hS hw ⟨wd_is1 hS hw, wd_in1 hS hw (vp_in_nI hi (by decide)), ?_⟩
  rw [nI_clamp (by omega)]
  exact wd_rdt hS hw hi hk
set_option maxHeartbeats 2000000 in
theorem s_lookByLot (hS : St sh rf nx) {w N home Lk : Nat} {ly : Row} {s : Lks} {mem : ab_N} (hw : Wd w) (hN : N ≤ 8) (hL : Lk ≤ 8) (h4 : s.1 4 = nI Lk) (hR : LK mem w N home ly s.1 s.2.1 s.2.2)
    (h : ∀ mem', Fr w mem mem' → LK mem' w N home ly (lots ly home N s (min Lk N)).1 (lots ly home N s (min Lk N)).2.1 (lots ly home N s (min Lk N)).2.2 → K (some (.int (cntB (lots ly home N s (min Lk N)).2.2 N - cntB s.2.2 N))) sh rf mem' nx) : ab_Cx l G ol (d + 2) mWo_lookByLot [.ref w] sh rf mem nx K := by
  have h4n : ∀ n, (lots ly home N s n).1 4 = nI Lk := fun n => (lots_keep (by decide) (by decide) n).trans h4
  suffices loop : ∀ n i, i + n = min Lk N → ∀ mem' (c : Int32), Fr w mem mem' → LK mem' w N home ly (lots ly home N s i).1 (lots ly home N s i).2.1 (lots ly home N s i).2.2 → c = cntB (lots ly home N s i).2.2 N - cntB s.2.2 N → ab_Go l G ol (d + 1) mWo_lookByLot (ab_mc mWo_lookByLot) (ab_ms mWo_lookByLot) (fun r sh rf mem nx _ _ => K r sh rf mem nx) 4 [.ref w, .int c, .int (nI i)] [] sh rf mem' nx 0 0 from
    e_mWo_lookByLot (loop (min Lk N) 0 (by omega) mem 0 Fr.rfl (by rw [lots_0]; exact hR) (by rw [lots_0, Int32.sub_self]))
  intro n
  induction n with
  | zero =>
    intro i hi mem' c hF hR' hc
    have e : i = min Lk N := by omega
    subst e
    subst hc
    have hfin := h mem' hF hR'
    refine h_mWo_lookByLot_4 ⟨wd_is hS hw, fun _ => ⟨trivial, hfin⟩, fun q => ⟨wd_is hS hw, fun _ => ⟨trivial, hfin⟩, fun q2 => ?_⟩⟩
    exfalso
    rw [hR'.1.2.2.2.2.2.1, h4n] at q
    rw [hR'.1.2.1] at q2
    rcases Nat.le_total Lk N with g | g
    · exact q (by rw [Nat.min_eq_left g]; exact Int32.le_refl _)
    · exact q2 (by rw [Nat.min_eq_right g]; exact Int32.le_refl _)
  | succ n ih =>
    intro i hi mem1 c hF hR1 hc
    have hiL : i < Lk := by omega
    have hiN : i < N := by omega
    generalize hg : lots ly home N s i = g at *
    refine h_mWo_lookByLot_4 ⟨wd_is hS hw, fun q => absurd q (by rw [hR1.1.2.2.2.2.2.1, ← hg, h4n]; exact nI_ge hiL (by omega)), fun _ => ⟨wd_is hS hw, fun q => absurd q (by rw [hR1.1.2.1]; exact nI_ge hiN (by omega)), fun _ => ⟨wd_is hS hw, wd_rd1 hS hw ⟨wd_is hS hw, s_draw hS hw ?_⟩⟩⟩⟩
    have hz : mem1 w 7 = g.1 0 := hR1.1.1
    have hR2 : LK (ab_w mem1 w 7 (drw (mem1 w 7))) w N home ly (rowD g.1) g.2.1 g.2.2 := by rw [hz]; exact hR1.draw _
    have hF2 : Fr w mem (ab_w mem1 w 7 (drw (mem1 w 7))) := hF.trans (Fr.z7 (by decide))
    obtain ⟨t, ht, et⟩ := rem_dval (drw (mem1 w 7)) (n := N) (by omega) (by omega)
    have ct : Int32.toNatClampNeg (nI t) = t := nI_clamp (by omega)
    have hl1 : lot1 ly home N g = lk ly home t (rowD g.1, g.2.1, g.2.2) := by
      unfold lot1 pick
      rw [← hz, et, ct]
    have hnx : lots ly home N s (i + 1) = lk ly home t (rowD g.1, g.2.1, g.2.2) := by
      rw [lots_s, hg, hl1]
    have hm2 : ab_w mem1 w 7 (drw (mem1 w 7)) w 2 = nI N := hR2.1.2.1
    generalize ab_w mem1 w 7 (drw (mem1 w 7)) = mem2 at *
    unfold rem at et
    refine ⟨_, rfl, wd_is hS hw, ?_⟩
    rw [hm2, et]
    refine ⟨nI_ne0 (by omega) (by omega), wd_is1 hS hw, wd_in1 hS hw (vp_in_nI (by omega) (by decide)), ?_⟩
    rw [ct]
    refine wd_rdt hS hw (by omega) ⟨td_is hS (wd_td hw (by omega)), s_isCaught hS (wd_td hw (by omega)) ?_⟩
    have hR3 := hR2.look ht
    have hF3 : Fr w mem (caughtMem mem2 (w + 3 + 2 * t)) := hF2.trans (Fr.caught (by omega))
    have hcnt := lk_cnt (ly := ly) (home := home) (s := (rowD g.1, g.2.1, g.2.2)) hR2.2.2.2.2.2.2 ht
    by_cases hlc : lkC ly home t (rowD g.1, g.2.1, g.2.2)
    · rw [if_pos ((hR2.ans ht).mpr hlc)]
      refine ⟨_, rfl, fun q => absurd q (by decide), fun _ => ?_⟩
      rw [nI_1]
      refine ih (i + 1) (by omega) _ _ hF3 (by rw [hnx]; exact hR3) ?_
      rw [hnx, hcnt.1 hlc, hc]
      show cntB g.2.2 N - cntB s.2.2 N + 1 = cntB g.2.2 N + 1 - cntB s.2.2 N
      rw [Int32.sub_eq_add_neg, Int32.sub_eq_add_neg, Int32.add_assoc, Int32.add_assoc, Int32.add_comm 1]
    · rw [if_neg (fun q => hlc ((hR2.ans ht).mp q))]
      refine ⟨_, rfl, fun _ => ?_, fun q => absurd rfl q⟩
      rw [nI_1]
      refine ih (i + 1) (by omega) _ _ hF3 (by rw [hnx]; exact hR3) ?_
      rw [hnx, hcnt.2 hlc, hc]
end XK
