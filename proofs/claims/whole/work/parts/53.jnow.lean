/-! BOTH: calls that change what is now -/
theorem upd_hi {f : Row} {q k : Nat} {v : Int32} (h : q < 111) (hk : 111 ≤ k) : upd f q v k = f k := pk_un (by omega)
theorem comF_hi {f : Row} {N k : Nat} {a b c : Int32} (hN : N < 8) (hk : 111 ≤ k) : comF f N a b c k = f k := comF_e (by omega) (by unfold tI; omega)
theorem comF_6 {f : Row} {N k : Nat} {a b c : Int32} (h1 : k ≠ 1) (hk : k < 7) : comF f N a b c k = f k := comF_e h1 (by unfold tI; omega)
theorem Wf.com {N D : Nat} {f : Row} (h : Wf N D f) {a b c : Nat} (ha : a < 6) (hb : b ≤ 99) (hc : c ≤ 99) : Wf (N + 1) D (comF f N (nI a) (nI b) (nI c)) := by
  obtain ⟨w1, w3, w4, w5, w2, wt⟩ := h
  have u : ∀ k, k ≠ 1 → k < 7 → comF f N (nI a) (nI b) (nI c) k = f k := fun k h1 h2 => comF_6 h1 h2
  refine ⟨by unfold comF; rw [if_pos rfl], by rw [u 3 (by decide) (by decide)]; exact w3, by rw [u 4 (by decide) (by decide)]; exact w4, by rw [u 5 (by decide) (by decide)]; exact w5, by rw [u 2 (by decide) (by decide)]; exact w2, fun i hi => ?_⟩
  unfold TrW
  by_cases e : i = N
  · subst e
    rw [comF_n (by decide), comF_n (by decide), comF_n (by decide), comF_n (by decide), comF_n (by decide)]
    exact ⟨⟨a, ha, rfl⟩, ⟨b, hb, rfl⟩, ⟨c, hc, rfl⟩, ⟨0, Nat.zero_le _, rfl⟩, ⟨0, Nat.zero_le _, rfl⟩⟩
  · have v : ∀ k, k < 13 → comF f N (nI a) (nI b) (nI c) (tI i k) = f (tI i k) := fun k hk => comF_e (by unfold tI; omega) (by unfold tI; omega)
    rw [v 0 (by decide), v 1 (by decide), v 2 (by decide), v 4 (by decide), v 6 (by decide)]
    exact wt i (by omega)
theorem Wf.z0 {N D : Nat} {f : Row} (h : Wf N D f) (v : Int32) : Wf N D (upd f 0 v) := by
  obtain ⟨w1, w3, w4, w5, w2, wt⟩ := h
  have u : ∀ k, k ≠ 0 → upd f 0 v k = f k := fun k hk => pk_un hk
  refine ⟨by rw [u 1 (by decide)]; exact w1, by rw [u 3 (by decide)]; exact w3, by rw [u 4 (by decide)]; exact w4, by rw [u 5 (by decide)]; exact w5, by rw [u 2 (by decide)]; exact w2, fun i hi => ?_⟩
  have := wt i hi
  unfold TrW at *
  rw [u _ (by unfold tI; omega), u _ (by unfold tI; omega), u _ (by unfold tI; omega), u _ (by unfold tI; omega), u _ (by unfold tI; omega)]
  exact this
theorem Wf.m5 {N D : Nat} {f : Row} (h : Wf N D f) {v : Int32} (hv : v = 0 ∨ v = 1) : Wf N D (upd f 5 v) := by
  obtain ⟨w1, w3, w4, w5, w2, wt⟩ := h
  have u : ∀ k, k ≠ 5 → upd f 5 v k = f k := fun k hk => pk_un hk
  refine ⟨by rw [u 1 (by decide)]; exact w1, by rw [u 3 (by decide)]; exact w3, by rw [u 4 (by decide)]; exact w4, by rw [pk_us]; exact hv, by rw [u 2 (by decide)]; exact w2, fun i hi => ?_⟩
  have := wt i hi
  unfold TrW at *
  rw [u _ (by unfold tI; omega), u _ (by unfold tI; omega), u _ (by unfold tI; omega), u _ (by unfold tI; omega), u _ (by unfold tI; omega)]
  exact this
/-- travellers dealt -/
theorem dlF_ok {N D : Nat} {f : Row} (hW : Wf N D f) : ∀ m, N + m ≤ 8 → Wf (N + m) D (dlF N f m) ∧ (∀ k, 111 ≤ k → dlF N f m k = f k) ∧ dlF N f m 6 = f 6
  | 0, _ => ⟨hW, fun _ _ => rfl, rfl⟩
  | m + 1, h => by
    obtain ⟨h1, h2, h3⟩ := dlF_ok hW m (by omega)
    unfold dlF dl1
    obtain ⟨a, ha, ea⟩ := rem_dval (drw (dlF N f m 0)) (n := 6) (by decide) (by decide)
    obtain ⟨b, hb, eb⟩ := rem_dval (drw (drw (dlF N f m 0))) (n := 60) (by decide) (by decide)
    obtain ⟨c, hc, ec⟩ := rem_dval (drw (drw (drw (dlF N f m 0)))) (n := 30) (by decide) (by decide)
    rw [show (6 : Int32) = nI 6 from rfl, show (60 : Int32) = nI 60 from rfl, show (30 : Int32) = nI 30 from rfl, ea, eb, ec]
    refine ⟨(h1.z0 _).com ha (by omega) (by omega), fun k hk => ?_, ?_⟩
    · rw [comF_hi (by omega) hk, pk_un (by omega)]; exact h2 k hk
    · rw [comF_6 (by decide) (by decide), pk_un (by decide)]; exact h3
/-- poured needs -/
theorem h99_rg (v : Int32) : ∃ k, k ≤ 99 ∧ h99 v = nI k := by
  unfold h99
  by_cases h : v < 99
  · rw [if_pos h]
    by_cases h0 : 0 < v
    · rw [if_pos h0]
      obtain ⟨k, hk, e⟩ := rg_of (M := 99) (by omega) ⟨Int32.le_of_lt h0, Int32.le_of_lt h⟩
      exact ⟨k, hk, e⟩
    · rw [if_neg h0]; exact ⟨0, by omega, rfl⟩
  · rw [if_neg h, if_pos (by decide)]; exact ⟨99, by omega, rfl⟩
theorem poF_ok {N D : Nat} {f pl : Row} (hW : Wf N D f) : ∀ m, m ≤ 8 → Wf N D (poF f pl m).1 ∧ (∀ k, 111 ≤ k → (poF f pl m).1 k = f k) ∧ (poF f pl m).1 6 = f 6
  | 0, _ => ⟨hW, fun _ _ => rfl, rfl⟩
  | m + 1, h => by
    obtain ⟨h1, h2, h3⟩ := poF_ok (pl := pl) hW m (by omega)
    unfold poF po1
    split
    · exact ⟨h1, h2, h3⟩
    · refine ⟨h1.tr (Or.inr (Or.inl ⟨rfl, ?_⟩)), fun k hk => ?_, ?_⟩
      · obtain ⟨k, hk, e⟩ := h99_rg (pl m)
        exact ⟨k, hk, e⟩
      · show upd _ _ _ k = f k
        rw [pk_un (by unfold tI; omega)]; exact h2 k hk
      · show upd _ _ _ 6 = f 6
        rw [pk_un (by unfold tI; omega)]; exact h3
section JN
variable {l : Launch} {G : ab_G} {ol : ab_Ol} {sh : ab_S} {rf : ab_R} {mem : ab_N} {nx : Nat}
/-- the class's world changed, then the reference's row -/
theorem Inv.nowR {N D T N' D' : Nat} {mem1 mem2 : ab_N} {g : Row} (hS : St sh rf nx) (h : Inv0 mem N D T) (hx : ∀ t, t < T → TxC sh rf mem nx (mem 102) t) (F1 : Fr 4 mem mem1) (hR : RW mem1 4 N' g) (F2 : FE mem1 mem2) (e2 : mem2 102 = g) (hN : N' ≤ 8) (hD : D' ≤ 9999) (hW : Wf N' D' g) (hk6 : g 6 = mem 102 6) (hk : ∀ k, 111 ≤ k → g k = mem 102 k) : Inv sh rf mem2 nx := by
  have f2 : ∀ a, a < 101 → mem2 a = mem1 a := fun a ha => F2 a (by omega) (by omega) (by omega) (by omega)
  refine Inv.now hS h hx (N' := N') (D' := D') (fun a h1 h2 h3 => ?_) ?_ ?_ hN hD ?_ (by rw [e2]; exact hW) (by rw [e2]; exact hk6) (fun k h => by rw [e2]; exact hk k h)
  · unfold SC at h1
    rw [F2 a h3 (by omega) (by omega) (by omega), F1.1 a (by omega) (by omega)]
  · rw [f2 6 (by omega)]; exact F1.2.1
  · rw [f2 4 (by omega)]; exact F1.2.2
  · rw [e2]; exact hR.congr hN fun a h1 h2 => f2 a (by omega)
theorem Fr.x1 {i k : Nat} {v : Int32} (hi : i < 8) : Fr 4 mem (ab_w mem (4 + 3 + 2 * i) k v) := Fr.w10 hi
theorem fr102 {mem mem1 : ab_N} (F : Fr 4 mem mem1) : mem1 102 = mem 102 := F.1 102 (by omega) (by decide)
theorem J_traveller (hI : Inv sh rf mem nx) {a b c : Int32} : JC l G ol mX_traveller mM_traveller [.int a, .int b, .int c] sh rf mem nx := by
  have hI' := hI
  obtain ⟨hS, N, D, T, hI0, hx⟩ := hI
  have hI0' := hI0
  obtain ⟨⟨hN, hD, hR, hW, hTx, h10, hC, hz⟩, hImg, hTap, hSh, hSl, hWa, hKs⟩ := hI0
  intro K h
  refine x_traveller hS hN hR (fun q => h _ mem fun K2 h2 => ?_) (fun q e => h _ mem fun K2 h2 => ?_) (fun q e mem1 F _ R1 => h _ mem1 fun K2 h2 => ?_)
  · exact m_traveller hS hN rfl hW.1 (fun _ => h2 mem hI') (fun y => absurd y q) (fun y => absurd y q)
  · exact m_traveller hS hN rfl hW.1 (fun y => absurd q y) (fun _ _ => h2 mem hI') (fun _ y => by omega)
  · refine m_traveller (f := mem 102) hS hN (fr102 F) hW.1 (fun y => absurd q y) (fun _ y => by omega) (fun _ _ => h2 _ ?_)
    obtain ⟨⟨x1, hx1, rfl⟩, ⟨x2, hx2, rfl⟩, ⟨x3, hx3, rfl⟩⟩ := And.intro (rg_of (M := 5) (by omega) q.1) (And.intro (rg_of (M := 99) (by omega) q.2.1) (rg_of (M := 99) (by omega) q.2.2))
    exact Inv.nowR hS hI0' hx F R1 FE.row (row_at _ _ _) (by omega) hD (hW.com (by omega) hx2 hx3) (comF_6 (by decide) (by decide)) (fun k hk => comF_hi e hk)
theorem J_turns (hI : Inv sh rf mem nx) {t w : Int32} : JC l G ol mX_turns mM_turns [.int t, .int w] sh rf mem nx := by
  have hI' := hI
  obtain ⟨hS, N, D, T, hI0, hx⟩ := hI
  have hI0' := hI0
  obtain ⟨⟨hN, hD, hR, hW, hTx, h10, hC, hz⟩, hImg, hTap, hSh, hSl, hWa, hKs⟩ := hI0
  intro K h
  refine x_turns hS hN hR (fun q => h _ mem fun K2 h2 => ?_) (fun i hi hw e => h _ _ fun K2 h2 => ?_)
  · exact m_turns hS hN rfl hW.1 (fun _ => h2 mem hI') (fun i hi hw e => absurd ⟨by rw [e]; exact ix_in (by omega) hi, hw⟩ q)
  · subst e
    have F : Fr 4 mem (ab_w mem (4 + 3 + 2 * i) 0 w) := Fr.x1 (by omega)
    refine m_turns (f := mem 102) hS hN (fr102 F) hW.1 (fun q => absurd ⟨ix_in (by omega) hi, hw⟩ q) (fun j hj hw e => ?_)
    have := ixe e (by omega) (by omega)
    subst this
    obtain ⟨k, hk, rfl⟩ := rg_of (M := 5) (by omega) hw
    exact h2 _ (Inv.nowR hS hI0' hx F (hR.put hi (by decide) _) FE.row (row_at _ _ _) hN hD (hW.tr (Or.inl ⟨rfl, k, by omega, rfl⟩)) (pk_un (by unfold tI; omega)) (fun k hk => pk_un (by unfold tI; omega)))
theorem J_set (hI : Inv sh rf mem nx) {t w v : Int32} : JC l G ol mX_set mM_set [.int t, .int w, .int v] sh rf mem nx := by
  have hI' := hI
  obtain ⟨hS, N, D, T, hI0, hx⟩ := hI
  have hI0' := hI0
  obtain ⟨⟨hN, hD, hR, hW, hTx, h10, hC, hz⟩, hImg, hTap, hSh, hSl, hWa, hKs⟩ := hI0
  intro K h
  have w12 : ∀ k, k = 1 ∨ k = 2 → w = nI k → w = 1 ∨ w = 2 := by
    intro k hk ew
    rcases hk with rfl | rfl
    · exact Or.inl ew
    · exact Or.inr ew
  refine x_set hS hN hR (fun q => h _ mem fun K2 h2 => ?_) (fun i k hi hk ew hv e => h _ _ fun K2 h2 => ?_)
  · exact m_set hS hN rfl hW.1 (fun _ => h2 mem hI') (fun i k hi hk ew hv e => absurd ⟨by rw [e]; exact ix_in (by omega) hi, w12 k hk ew, hv⟩ q)
  · subst e
    have F : Fr 4 mem (ab_w mem (4 + 3 + 2 * i) k v) := Fr.x1 (by omega)
    refine m_set (f := mem 102) hS hN (fr102 F) hW.1 (fun q => absurd ⟨ix_in (by omega) hi, w12 k hk ew, hv⟩ q) (fun j k' hj hk' ew' hv' e => ?_)
    have := ixe e (by omega) (by omega)
    subst this
    have := ixe (ew.symm.trans ew') (by omega) (by omega)
    subst this
    obtain ⟨x, hx1, rfl⟩ := rg_of (M := 99) (by omega) hv
    refine h2 _ (Inv.nowR hS hI0' hx F (hR.put hi (by omega) _) FE.row (row_at _ _ _) hN hD (hW.tr ?_) (pk_un (by unfold tI; omega)) (fun y hy => pk_un (by unfold tI; omega)))
    rcases hk with rfl | rfl
    · exact Or.inr (Or.inl ⟨rfl, x, hx1, rfl⟩)
    · exact Or.inr (Or.inr ⟨rfl, x, hx1, rfl⟩)
theorem J_deal (hI : Inv sh rf mem nx) {n : Int32} : JC l G ol mX_deal mM_deal [.int n] sh rf mem nx := by
  have hI' := hI
  obtain ⟨hS, N, D, T, hI0, hx⟩ := hI
  have hI0' := hI0
  obtain ⟨⟨hN, hD, hR, hW, hTx, h10, hC, hz⟩, hImg, hTap, hSh, hSl, hWa, hKs⟩ := hI0
  intro K h
  refine x_deal hS hN hR (fun q => h _ mem fun K2 h2 => ?_) (fun k k1 hk e mem1 F R1 => h _ mem1 fun K2 h2 => ?_)
  · exact m_deal hS hN rfl hW.1 (fun _ => h2 mem hI') (fun k k1 hk e => absurd (by rw [e]; exact ⟨nI_le (a := 1) k1 (by omega), nI_le (b := 8) (by omega) (by decide)⟩) q)
  · subst e
    refine m_deal (f := mem 102) hS hN (fr102 F) hW.1 (fun q => absurd ⟨nI_le (a := 1) k1 (by omega), nI_le (b := 8) (by omega) (by decide)⟩ q) (fun k' k1' hk' e => ?_)
    have := ixe e (by omega) (by omega)
    subst this
    obtain ⟨g1, g2, g3⟩ := dlF_ok hW (min k (8 - N)) (by omega)
    exact h2 _ (Inv.nowR hS hI0' hx F R1 FE.row (row_at _ _ _) (by omega) hD g1 g3 g2)
theorem J_seed (hI : Inv sh rf mem nx) {v : Int32} : JC l G ol mX_seed mM_seed [.int v] sh rf mem nx := by
  have hI' := hI
  obtain ⟨hS, N, D, T, hI0, hx⟩ := hI
  have hI0' := hI0
  obtain ⟨⟨hN, hD, hR, hW, hTx, h10, hC, hz⟩, hImg, hTap, hSh, hSl, hWa, hKs⟩ := hI0
  intro K h
  have F : Fr 4 mem (ab_w mem 4 7 v) := Fr.z7 (by decide)
  exact x_seed hS hR (h _ _ fun K2 h2 => m_seed (f := mem 102) hS (fr102 F) (h2 _ (Inv.nowR hS hI0' hx F (hR.draw _) FE.row (row_at _ _ _) hN hD (hW.z0 _) (pk_un (by decide)) (fun k hk => pk_un (by omega)))))
theorem J_rule (hI : Inv sh rf mem nx) {w v : Int32} : JC l G ol mX_rule mM_rule [.int w, .int v] sh rf mem nx := by
  have hI' := hI
  obtain ⟨hS, N, D, T, hI0, hx⟩ := hI
  have hI0' := hI0
  obtain ⟨⟨hN, hD, hR, hW, hTx, h10, hC, hz⟩, hImg, hTap, hSh, hSl, hWa, hKs⟩ := hI0
  intro K h
  refine x_rule hS hR (fun q => h _ mem fun K2 h2 => ?_) (fun e q => h _ _ fun K2 h2 => ?_) (fun e q => h _ _ fun K2 h2 => ?_) (fun e q => h _ _ fun K2 h2 => ?_)
  · exact m_rule hS rfl (fun _ => h2 mem hI') (fun e y => absurd (Or.inl ⟨e, y⟩) q) (fun e y => absurd (Or.inr (Or.inl ⟨e, y⟩)) q) (fun e y => absurd (Or.inr (Or.inr ⟨e, y⟩)) q)
  · have F : Fr 4 mem (ab_w mem 4 3 v) := Fr.z7 (by decide)
    refine m_rule (f := mem 102) hS (fr102 F) (fun y => absurd (Or.inl ⟨e, q⟩) y) (fun _ _ => ?_) (fun e' => absurd (e.symm.trans e') (by decide)) (fun e' => absurd (e.symm.trans e') (by decide))
    obtain ⟨k, hk, rfl⟩ := rg_of (M := 999) (by omega) ⟨Int32.le_trans (by decide) q.1, q.2⟩
    have k1 : 1 ≤ k := (nI_leI (a := 1) (by omega) (by omega)).mp q.1
    exact h2 _ (Inv.nowR hS hI0' hx F (hR.wput (Or.inl ⟨rfl, rfl⟩) _) FE.row (row_at _ _ _) hN hD (hW.l3 k1 hk) (pk_un (by decide)) (fun k hk => pk_un (by omega)))
  · have F : Fr 4 mem (ab_w mem 4 4 v) := Fr.z7 (by decide)
    refine m_rule (f := mem 102) hS (fr102 F) (fun y => absurd (Or.inr (Or.inl ⟨e, q⟩)) y) (fun e' => absurd (e.symm.trans e') (by decide)) (fun _ _ => ?_) (fun e' => absurd (e.symm.trans e') (by decide))
    obtain ⟨k, hk, rfl⟩ := rg_of (M := 8) (by omega) q
    exact h2 _ (Inv.nowR hS hI0' hx F (hR.wput (Or.inr (Or.inl ⟨rfl, rfl⟩)) _) FE.row (row_at _ _ _) hN hD (hW.l4 hk) (pk_un (by decide)) (fun k hk => pk_un (by omega)))
  · have F : Fr 4 mem (ab_w mem 4 5 v) := Fr.z7 (by decide)
    refine m_rule (f := mem 102) hS (fr102 F) (fun y => absurd (Or.inr (Or.inr ⟨e, q⟩)) y) (fun e' => absurd (e.symm.trans e') (by decide)) (fun e' => absurd (e.symm.trans e') (by decide)) (fun _ _ => ?_)
    obtain ⟨k, hk, rfl⟩ := rg_of (M := 1) (by omega) q
    refine h2 _ (Inv.nowR hS hI0' hx F (hR.wput (Or.inr (Or.inr ⟨rfl, rfl⟩)) _) FE.row (row_at _ _ _) hN hD (hW.m5 ?_) (pk_un (by decide)) (fun k hk => pk_un (by omega)))
    rcases (show k = 0 ∨ k = 1 by omega) with rfl | rfl
    · exact Or.inl rfl
    · exact Or.inr rfl
theorem J_days (hI : Inv sh rf mem nx) {n : Int32} : JC l G ol mX_days mM_days [.int n] sh rf mem nx := by
  have hI' := hI
  obtain ⟨hS, N, D, T, hI0, hx⟩ := hI
  have hI0' := hI0
  obtain ⟨⟨hN, hD, hR, hW, hTx, h10, hC, hz⟩, hImg, hTap, hSh, hSl, hWa, hKs⟩ := hI0
  intro K h
  refine x_days hS hN hR hW hD (lw_of hTx hC hx (k := 0) (by decide)) h10 (fun q => h _ mem fun K2 h2 => ?_) (fun k k1 hk e mem1 F R1 => h _ mem1 fun K2 h2 => ?_)
  · exact m_days hS hN rfl hW hD hTx hKs.1 (fun _ => h2 mem hI') (fun k k1 hk e => absurd (by rw [e]; exact ⟨nI_le (a := 1) k1 (by omega), nI_le (b := 100) (by omega) (by decide)⟩) q)
  · subst e
    refine m_days (f := mem 102) hS hN (fr102 F) hW hD hTx (by rw [F.1 101 (by omega) (by decide)]; exact hKs.1) (fun q => absurd ⟨nI_le (a := 1) k1 (by omega), nI_le (b := 100) (by omega) (by decide)⟩ q) (fun k' k1' hk' e mem2 F2 e2 => ?_)
    have := ixe e (by omega) (by omega)
    subst this
    obtain ⟨g1, _, g3⟩ := hW.pass (home := 8) (ctO_rg (oF (mem 102) 0 T)) (min k (9999 - D)) (by omega)
    exact h2 _ (Inv.nowR hS hI0' hx F R1 F2 e2 hN (by omega) g1 (g3 6 (by omega)) (fun y hy => pasF_hi hN hy _))
theorem J_pour (hI : Inv sh rf mem nx) {s : Int32} : JC l G ol mX_pour mM_pour [.int s] sh rf mem nx := by
  have hI' := hI
  obtain ⟨hS, N, D, T, hI0, hx⟩ := hI
  have hI0' := hI0
  obtain ⟨⟨hN, hD, hR, hW, hTx, h10, hC, hz⟩, hImg, hTap, hSh, hSl, hWa, hKs⟩ := hI0
  intro K h
  refine x_pour hS hN hR (sz_x hSh) (fun q => h _ mem fun K2 h2 => ?_) (fun i hi e1 em => h _ mem fun K2 h2 => ?_) (fun i z hi e1 em hz24 ez mem1 F _ R1 => h _ mem1 fun K2 h2 => ?_)
  · exact m_pour hS hN rfl hW.1 (sz_m hSh) (so_2 hSh) (fun _ => h2 mem hI') (fun i hi e1 _ => absurd (by rw [e1]; exact ⟨nI_pos' (by omega), nI_le (b := 3) (by omega) (by decide)⟩) q) (fun i z hi e1 _ _ _ => absurd (by rw [e1]; exact ⟨nI_pos' (by omega), nI_le (b := 3) (by omega) (by decide)⟩) q)
  · subst e1
    exact m_pour hS hN rfl hW.1 (sz_m hSh) (so_2 hSh) (fun q => absurd ⟨nI_pos' (by omega), nI_le (b := 3) (by omega) (by decide)⟩ q) (fun i' hi' e1 _ => h2 mem hI') (fun i' z hi' e1 y _ _ => by
      have := ixe e1 (by omega) (by omega)
      subst this
      exact absurd ((hSh i hi).1.symm.trans em) y)
  · subst e1
    have hSh1 : ISh mem1 := hSh.congr fun a ha => F.1 a (by omega) (by omega)
    have f7 : mem1 117 = mem 117 := F.1 117 (by omega) (by decide)
    have f8 : mem1 118 = mem 118 := F.1 118 (by omega) (by decide)
    have f9 : mem1 119 = mem 119 := F.1 119 (by omega) (by decide)
    refine m_pour (f := mem 102) hS hN (fr102 F) hW.1 (sz_m hSh1) (so_2 hSh1) (fun q => absurd ⟨nI_pos' (by omega), nI_le (b := 3) (by omega) (by decide)⟩ q) (fun i' hi' e1 y => ?_) (fun i' z' hi' e1 y hz' ez' => ?_)
    · have := ixe e1 (by omega) (by omega)
      subst this
      rw [f7] at y
      exact absurd ((hSh i hi).1.trans y) em
    · have := ixe e1 (by omega) (by omega)
      subst this
      rw [f8] at ez'
      have := sz_e hSh hi hz24 hz' ez ez'
      subst this
      rw [f9, ← poF_congr (f := mem 102) (min N z') (pl := mem (shC i + 1)) (fun x hx => (hSh i hi).2.2.2.1 x (by omega))]
      obtain ⟨g1, g2, g3⟩ := poF_ok (pl := mem (shC i + 1)) hW (min N z') (by omega)
      exact h2 _ (Inv.nowR hS hI0' hx F R1 FE.row (row_at _ _ _) hN hD g1 g3 g2)
end JN
