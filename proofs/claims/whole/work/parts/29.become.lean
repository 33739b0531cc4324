/-! THE CLASS: Traveller.begin, become; World.comes, become -/
theorem td_ne {t o : Nat} (ht : Td t) (ho : Td o) : t ≠ o + 1 := by
  intro e
  have h0 := td_0 o ho.2 ho.1
  have := ht.1
  rw [e, h0.2.1] at this
  exact absurd this (by decide)
def becT (mem : ab_N) (t o : Nat) : ab_N := fun b k => if b = t ∧ k < 7 then mem o k else if b = t + 1 ∧ k < 6 then mem (o + 1) k else mem b k
theorem becT_out {mem : ab_N} {t o b k : Nat} (h1 : b ≠ t) (h2 : b ≠ t + 1) : becT mem t o b k = mem b k := by unfold becT; rw [if_neg (fun q => h1 q.1), if_neg (fun q => h2 q.1)]
def begT (mem : ab_N) (t : Nat) (kind need bent : Int32) : ab_N := fun b k => if b = t ∧ k < 7 then (if k = 0 then kind else if k = 1 then need else if k = 2 then bent else 0) else if b = t + 1 ∧ k < 6 then 0 else mem b k
theorem begT_out {mem : ab_N} {t b k : Nat} {k0 n0 b0 : Int32} (h1 : b ≠ t) (h2 : b ≠ t + 1) : begT mem t k0 n0 b0 b k = mem b k := by unfold begT; rw [if_neg (fun q => h1 q.1), if_neg (fun q => h2 q.1)]
section XB
variable {l : Launch} {G : ab_G} {ol : ab_Ol} {d : Nat} {sh : ab_S} {rf : ab_R} {nx : Nat} {K : ab_K} {mem : ab_N}
set_option maxHeartbeats 2000000 in
theorem s_tbecome (hS : St sh rf nx) {t o : Nat} (ht : Td t) (ho : Td o) (hto : t ≠ o) (h : K none sh rf (becT mem t o) nx) : ab_Cx l G ol (d + 1) mTr_become [.ref t, .ref o] sh rf mem nx K := by
  have i1 := td_is hS ht
  have i2 := td_is hS ho
  have n1 := td_ne ht ho
  have n2 := td_ne ho ht
  refine e_mTr_become ⟨i2, i1, i2, i1, i2, i1, i2, i1, i2, i1, i2, i1, i2, i1, i2, td_rd hS ho ⟨i1, td_rd hS ht ⟨⟨td_is1 hS ho, td_is1 hS ht, by decide, by decide, by decide, by rw [td_sh1 hS ho]; decide, by rw [td_sh1 hS ht]; decide⟩, ?_⟩⟩⟩
  have e : ∀ m2, m2 = becT mem t o → K none sh rf m2 nx := fun m2 q => q ▸ h
  refine e _ ?_
  have hto' : ¬ o = t := fun q => hto q.symm
  have a0 : (0 : Int32).toNatClampNeg = 0 := by decide
  have a6 : (6 : Int32).toNatClampNeg = 6 := by decide
  funext b k
  unfold becT
  by_cases hb1 : b = t + 1
  · subst hb1
    have q1 : ¬ t + 1 = t := by omega
    have q2 : ¬ o + 1 = t := fun q => n1 q.symm
    by_cases hk : k < 6
    · simp [ab_row, ab_w, upd, va_cpy, a0, a6, hk, q2]
    · simp [ab_row, ab_w, upd, va_cpy, a0, a6, hk]
  · by_cases hb : b = t
    · subst hb
      by_cases k6 : k < 7
      · rw [if_pos ⟨rfl, k6⟩]
        rcases (show k = 0 ∨ k = 1 ∨ k = 2 ∨ k = 3 ∨ k = 4 ∨ k = 5 ∨ k = 6 by omega) with rfl | rfl | rfl | rfl | rfl | rfl | rfl <;> simp [ab_row, ab_w, upd, hto']
      · rw [if_neg (fun q => k6 q.2), if_neg (fun q => hb1 q.1)]
        have z0 : ¬ k = 0 := by omega
        have z1 : ¬ k = 1 := by omega
        have z2 : ¬ k = 2 := by omega
        have z3 : ¬ k = 3 := by omega
        have z4 : ¬ k = 4 := by omega
        have z5 : ¬ k = 5 := by omega
        have z6 : ¬ k = 6 := by omega
        simp [ab_row, ab_w, upd, z0, z1, z2, z3, z4, z5, z6]
    · rw [if_neg (fun q => hb q.1), if_neg (fun q => hb1 q.1)]
      simp [ab_row, ab_w, hb, hb1]
set_option maxHeartbeats 2000000 in
theorem s_begin (hS : St sh rf nx) {t : Nat} (ht : Td t) {k0 n0 b0 : Int32} (h : K none sh rf (begT mem t k0 n0 b0) nx) : ab_Cx l G ol (d + 1) mTr_begin [.ref t, .int k0, .int n0, .int b0] sh rf mem nx K := by
  have i1 := td_is hS ht
  let m0 : ab_N := fun b k => if b = t ∧ k < 7 then (if k = 0 then k0 else if k = 1 then n0 else if k = 2 then b0 else 0) else mem b k
  suffices loop : ∀ n i, i + n = 6 → ab_Go l G ol d mTr_begin (ab_mc mTr_begin) (ab_ms mTr_begin) (fun r sh rf mem nx _ _ => K r sh rf mem nx) 38 [.ref t, .int k0, .int n0, .int b0, .int (nI i)] [] sh rf (fun b k => if b = t + 1 ∧ k < i then 0 else m0 b k) nx 0 0 by
    refine e_mTr_begin ⟨i1, i1, i1, i1, i1, i1, i1, ?_⟩
    have := loop 6 0 rfl
    have e : ∀ m2, m2 = (fun b k => if b = t + 1 ∧ k < 0 then 0 else m0 b k) → ab_Go l G ol d mTr_begin (ab_mc mTr_begin) (ab_ms mTr_begin) (fun r sh rf mem nx _ _ => K r sh rf mem nx) 38 [.ref t, .int k0, .int n0, .int b0, .int 0] [] sh rf m2 nx 0 0 := fun m2 q => q ▸ this
    refine e _ ?_
    funext b k
    rw [if_neg (by omega)]
    show _ = if b = t ∧ k < 7 then (if k = 0 then k0 else if k = 1 then n0 else if k = 2 then b0 else 0) else mem b k
    by_cases hb : b = t
    · subst hb
      by_cases k7 : k < 7
      · rw [if_pos ⟨rfl, k7⟩]
        rcases (show k = 0 ∨ k = 1 ∨ k = 2 ∨ k = 3 ∨ k = 4 ∨ k = 5 ∨ k = 6 by omega) with rfl | rfl | rfl | rfl | rfl | rfl | rfl <;> simp [ab_w, upd]
      · rw [if_neg (fun q => k7 q.2)]
        have z0 : ¬ k = 0 := by omega
        have z1 : ¬ k = 1 := by omega
        have z2 : ¬ k = 2 := by omega
        have z3 : ¬ k = 3 := by omega
        have z4 : ¬ k = 4 := by omega
        have z5 : ¬ k = 5 := by omega
        have z6 : ¬ k = 6 := by omega
        simp [ab_w, upd, z0, z1, z2, z3, z4, z5, z6]
    · rw [if_neg (fun q => hb q.1)]
      simp [ab_w, hb]
  intro n
  induction n with
  | zero =>
    intro i hi
    have : i = 6 := by omega
    subst this
    refine h_mTr_begin_38 ⟨fun _ => ?_, fun q => absurd (by decide) q⟩
    have e : ∀ m2, m2 = begT mem t k0 n0 b0 → K none sh rf m2 nx := fun m2 q => q ▸ h
    refine e _ ?_
    funext b k
    unfold begT
    by_cases hc : b = t ∧ k < 7
    · rw [if_neg (by omega)]
      rw [if_pos hc]
      show (if b = t ∧ k < 7 then (if k = 0 then k0 else if k = 1 then n0 else if k = 2 then b0 else 0) else mem b k) = _
      rw [if_pos hc]
    · rw [if_neg hc]
      by_cases hd : b = t + 1 ∧ k < 6
      · rw [if_pos hd, if_pos hd]
      · rw [if_neg hd, if_neg hd]
        show (if b = t ∧ k < 7 then (if k = 0 then k0 else if k = 1 then n0 else if k = 2 then b0 else 0) else mem b k) = _
        rw [if_neg hc]
  | succ n ih =>
    intro i hi
    have hi6 : i < 6 := by omega
    refine h_mTr_begin_38 ⟨fun q => absurd q (i6_le i hi6), fun _ => ⟨i1, td_rd hS ht ⟨td_is1 hS ht, td_in hS ht (vp_in_nI hi6 (by decide)), ?_⟩⟩⟩
    rw [nI_clamp (by omega), nI_1]
    have e : ∀ m2, m2 = (fun b k => if b = t + 1 ∧ k < i + 1 then 0 else m0 b k) → ab_Go l G ol d mTr_begin (ab_mc mTr_begin) (ab_ms mTr_begin) (fun r sh rf mem nx _ _ => K r sh rf mem nx) 38 [.ref t, .int k0, .int n0, .int b0, .int (nI (i + 1))] [] sh rf m2 nx 0 0 := fun m2 q => q ▸ ih (i + 1) (by omega)
    refine e _ ?_
    funext b k
    by_cases hb : b = t + 1 ∧ k = i
    · obtain ⟨rfl, rfl⟩ := hb
      rw [w_eq, if_pos ⟨rfl, by omega⟩]
    · rw [w_ne _ _ (by omega)]
      by_cases hc : b = t + 1 ∧ k < i
      · rw [if_pos hc, if_pos ⟨hc.1, by omega⟩]
      · rw [if_neg hc, if_neg (by omega)]
/-- one comes: the row behind it -/
def comF (f : Row) (N : Nat) (k0 n0 b0 : Int32) : Row := fun k => if k = 1 then nI (N + 1) else if tI N 0 ≤ k ∧ k ≤ tI N 12 then (if k = tI N 0 then k0 else if k = tI N 1 then n0 else if k = tI N 2 then b0 else 0) else f k
theorem comF_e {f : Row} {N k : Nat} {k0 n0 b0 : Int32} (h1 : k ≠ 1) (h : k < tI N 0 ∨ tI N 12 < k) : comF f N k0 n0 b0 k = f k := by unfold comF; rw [if_neg h1, if_neg (by omega)]
theorem comF_n {f : Row} {N k : Nat} {k0 n0 b0 : Int32} (h : k < 13) : comF f N k0 n0 b0 (tI N k) = if k = 0 then k0 else if k = 1 then n0 else if k = 2 then b0 else 0 := by
  unfold comF
  rw [if_neg (by unfold tI; omega), if_pos (by unfold tI; omega)]
  by_cases a : k = 0
  · subst a; rw [if_pos rfl, if_pos rfl]
  · rw [if_neg (by unfold tI; omega : ¬ tI N k = tI N 0), if_neg a]
    by_cases b : k = 1
    · subst b; rw [if_pos rfl, if_pos rfl]
    · rw [if_neg (by unfold tI; omega : ¬ tI N k = tI N 1), if_neg b]
      by_cases c : k = 2
      · subst c; rw [if_pos rfl, if_pos rfl]
      · rw [if_neg (by unfold tI; omega : ¬ tI N k = tI N 2), if_neg c]
theorem s_comes (hS : St sh rf nx) {w N : Nat} {f : Row} (hw : Wd w) (hN : N < 8) (hR : RW mem w N f) {k0 n0 b0 : Int32} (h : ∀ mem', Fr w mem mem' → mem' 3 = mem 3 → RW mem' w (N + 1) (comF f N k0 n0 b0) → K (some (.int (nI N))) sh rf mem' nx) : ab_Cx l G ol (d + 2) mWo_comes [.ref w, .int k0, .int n0, .int b0] sh rf mem nx K := by
  have hw4 := wd_ge hw
  have hm2 : mem w 2 = nI N := hR.1.2.1
  refine e_mWo_comes ⟨wd_is hS hw, wd_rd1 hS hw ⟨wd_is hS hw, wd_is1 hS hw, ?_⟩⟩
  rw [hm2, nI_clamp (by omega)]
  refine ⟨wd_in1 hS hw (vp_in_nI hN (by decide)), wd_rdt hS hw hN ⟨td_is hS (wd_td hw hN), s_begin hS (wd_td hw hN) ⟨rfl, wd_is hS hw, wd_is hS hw, ?_⟩⟩⟩
  have eb : begT mem (w + 3 + 2 * N) k0 n0 b0 w 2 = nI N := by rw [begT_out (by omega) (by omega)]; exact hm2
  show ab_is sh nx w 7 ∧ True ∧ K (some (.int (ab_w (begT mem (w + 3 + 2 * N) k0 n0 b0) w 2 (begT mem (w + 3 + 2 * N) k0 n0 b0 w 2 + 1) w 2 - 1))) sh rf (ab_w (begT mem (w + 3 + 2 * N) k0 n0 b0) w 2 (begT mem (w + 3 + 2 * N) k0 n0 b0 w 2 + 1)) nx
  rw [w_eq, eb, nI_1, nI_pred]
  refine ⟨wd_is hS hw, trivial, h _ ⟨fun a ha h3 => ?_, ?_, ?_⟩ ?_ ?_⟩
  · funext k; rw [w_ne _ _ (Or.inl (by omega)), begT_out (by omega) (by omega)]
  · funext k; rw [w_ne _ _ (Or.inl (by omega)), begT_out (by omega) (by omega)]
  · rw [w_ne _ _ (Or.inr (by decide)), begT_out (by omega) (by omega)]
  · funext k; rw [w_ne _ _ (Or.inl (by omega)), begT_out (by omega) (by omega)]
  · obtain ⟨⟨a1, a2, a3, a4, a5, a6, a7, a8⟩, h9, h10⟩ := hR
    have ow : ∀ k, k ≠ 2 → ab_w (begT mem (w + 3 + 2 * N) k0 n0 b0) w 2 (nI (N + 1)) w k = mem w k := fun k hk => by rw [w_ne _ _ (Or.inr hk), begT_out (by omega) (by omega)]
    have ce : ∀ k, k ≠ 1 → k < 7 → comF f N k0 n0 b0 k = f k := fun k h1 h7 => comF_e h1 (by unfold tI; omega)
    refine ⟨⟨by rw [ow 7 (by decide), ce 0 (by decide) (by decide)]; exact a1, w_eq _ _ _ _, by unfold comF; rw [if_pos rfl], by rw [ow 6 (by decide), ce 2 (by decide) (by decide)]; exact a4, by rw [ow 3 (by decide), ce 3 (by decide) (by decide)]; exact a5, by rw [ow 4 (by decide), ce 4 (by decide) (by decide)]; exact a6, by rw [ow 5 (by decide), ce 5 (by decide) (by decide)]; exact a7, by rw [ow 8 (by decide), ce 6 (by decide) (by decide)]; exact a8⟩, fun i k hi hk => ?_, fun i j hi hj => ?_⟩
    · rw [w_ne _ _ (Or.inl (by omega))]
      by_cases hiN : i = N
      · subst hiN
        rw [comF_n (by omega)]
        unfold begT
        rw [if_pos ⟨rfl, hk⟩]
      · rw [begT_out (by omega) (by omega), comF_e (by unfold tI; omega) (by unfold tI; omega)]
        exact h9 i k (by omega) hk
    · rw [w_ne _ _ (Or.inl (by omega))]
      by_cases hiN : i = N
      · subst hiN
        rw [comF_n (by omega), if_neg (by omega), if_neg (by omega), if_neg (by omega)]
        unfold begT
        rw [if_neg (by omega), if_pos ⟨by omega, hj⟩]
      · rw [begT_out (by omega) (by omega), comF_e (by unfold tI; omega) (by unfold tI; omega)]
        exact h10 i j (by omega) hj
theorem wd_apart {w v : Nat} (hw : Wd w) (hv : Wd v) (h : w ≠ v) : w + 19 ≤ v ∨ v + 19 ≤ w := by rcases hw with rfl | rfl | rfl <;> rcases hv with rfl | rfl | rfl <;> omega
set_option maxHeartbeats 4000000 in
theorem s_wbecome (hS : St sh rf nx) {w v N : Nat} {f : Row} (hw : Wd w) (hv : Wd v) (hwv : w ≠ v) (hN : N ≤ 8) (hR : RW mem v N f)
    (h : ∀ mem', (∀ a, (a < w ∨ w + 19 ≤ a) → mem' a = mem a) → RW mem' w N f → (∀ j, j < 3 → mem' (w + 2) j = mem (v + 2) j) → mem' w 10 = -1000000005 → K none sh rf mem' nx) : ab_Cx l G ol (d + 2) mWo_become [.ref w, .ref v] sh rf mem nx K := by
  have hap := wd_apart hw hv hwv
  have hw4 := wd_ge hw
  suffices loop : ∀ n i, i + n = N → ∀ mem', (∀ a, (a < w ∨ w + 19 ≤ a) → mem' a = mem a) → (∀ j k, j < i → k < 7 → mem' (w + 3 + 2 * j) k = mem (v + 3 + 2 * j) k) → (∀ j k, j < i → k < 6 → mem' (w + 4 + 2 * j) k = mem (v + 4 + 2 * j) k) → ab_Go l G ol (d + 1) mWo_become (ab_mc mWo_become) (ab_ms mWo_become) (fun r sh rf mem nx _ _ => K r sh rf mem nx) 2 [.ref w, .ref v, .int (nI i)] [] sh rf mem' nx 0 0 from
    e_mWo_become (loop N 0 (by omega) mem (fun a _ => rfl) (fun j k q => by omega) (fun j k q => by omega))
  intro n
  induction n with
  | zero =>
    intro i hi mem' hF h1 h2
    have : i = N := by omega
    subst this
    have iw := wd_is hS hw
    have iv := wd_is hS hv
    have ev : ∀ a, v ≤ a → a < v + 19 → mem' a = mem a := fun a h1 h2 => hF a (by omega)
    refine h_mWo_become_2 ⟨iv, fun _ => ⟨iv, iw, iv, iw, iv, iw, iv, iw, iv, iw, iv, iw, iv, iw, iv, wd_rd9 hS hv ⟨iw, wd_rd9 hS hw ⟨⟨wd_is2 hS hv, wd_is2 hS hw, by decide, by decide, by decide, ?_, ?_⟩, iw, ?_⟩⟩⟩, fun q => absurd (by rw [ev v (by omega) (by omega), hR.1.2.1]; exact Int32.le_refl _) q⟩
    · have : (sh (v + 2)).2 = 3 := by rcases hv with rfl | rfl | rfl <;> exact sh_of hS rfl rfl
      rw [this]; decide
    · have : (sh (w + 2)).2 = 3 := by rcases hw with rfl | rfl | rfl <;> exact sh_of hS rfl rfl
      rw [this]; decide
    · have hvw : ¬ v = w := fun q => hwv q.symm
      have hv2w : ¬ v = w + 2 := by omega
      have hv2w' : ¬ v + 2 = w := by omega
      have hww : ¬ w = w + 2 := by omega
      have hww' : ¬ w + 2 = w := by omega
      have a0 : (0 : Int32).toNatClampNeg = 0 := by decide
      have a3 : (3 : Int32).toNatClampNeg = 3 := by decide
      have evv := ev v (by omega) (by omega)
      have evc := ev (v + 2) (by omega) (by omega)
      obtain ⟨⟨b1, b2, b3, b4, b5, b6, b7, b8⟩, b9, b10⟩ := hR
      refine h _ (fun a ha => ?_) ⟨⟨?_, ?_, b3, ?_, ?_, ?_, ?_, ?_⟩, fun j k hj hk => ?_, fun j k hj hk => ?_⟩ (fun j hj => ?_) ?_
      · have q1 : ¬ a = w := by omega
        have q2 : ¬ a = w + 2 := by omega
        simp [ab_w, ab_row, q1, q2, hF a ha]
      · simp [ab_w, ab_row, upd, hvw, hww, evv, b1]
      · simp [ab_w, ab_row, upd, hvw, hww, evv, b2]
      · simp [ab_w, ab_row, upd, hvw, hww, evv, b4]
      · simp [ab_w, ab_row, upd, hvw, hww, evv, b5]
      · simp [ab_w, ab_row, upd, hvw, hww, evv, b6]
      · simp [ab_w, ab_row, upd, hvw, hww, evv, b7]
      · simp [ab_w, ab_row, upd, hvw, hww, evv, b8]
      · have q1 : ¬ w + 3 + 2 * j = w := by omega
        have q2 : ¬ w + 3 + 2 * j = w + 2 := by omega
        simp [ab_w, ab_row, q1, q2]
        rw [h1 j k hj hk]; exact b9 j k hj hk
      · have q1 : ¬ w + 4 + 2 * j = w := by omega
        have q2 : ¬ w + 4 + 2 * j = w + 2 := by omega
        simp [ab_w, ab_row, q1, q2]
        rw [h2 j k hj hk]; exact b10 j k hj hk
      · simp [ab_w, ab_row, upd, hww', hv2w', va_cpy, a0, a3, hj, evc]
      · simp [ab_w, ab_row, upd]
  | succ n ih =>
    intro i hi mem1 hF h1 h2
    have hiN : i < N := by omega
    have hi8 : i < 8 := by omega
    have ev : ∀ a, v ≤ a → a < v + 19 → mem1 a = mem a := fun a h1 h2 => hF a (by omega)
    refine h_mWo_become_2 ⟨wd_is hS hv, fun q => absurd q (by rw [ev v (by omega) (by omega), hR.1.2.1]; exact nI_ge hiN (by omega)), fun _ => ⟨wd_is hS hw, wd_acc hS hw hi8 ⟨wd_is hS hv, wd_acc hS hv hi8 ⟨td_is hS (wd_td hw hi8), s_tbecome hS (wd_td hw hi8) (wd_td hv hi8) (by omega) ⟨rfl, ?_⟩⟩⟩⟩⟩
    rw [nI_1]
    refine ih (i + 1) (by omega) _ (fun a ha => ?_) (fun j k hj hk => ?_) (fun j k hj hk => ?_)
    · funext k; rw [becT_out (by omega) (by omega), hF a ha]
    · by_cases hji : j = i
      · subst hji
        unfold becT
        rw [if_pos ⟨rfl, hk⟩, ev _ (by omega) (by omega)]
      · rw [becT_out (by omega) (by omega)]; exact h1 j k (by omega) hk
    · by_cases hji : j = i
      · subst hji
        unfold becT
        rw [if_neg (by omega), if_pos ⟨by omega, hk⟩, show v + 3 + 2 * j + 1 = v + 4 + 2 * j by omega, ev _ (by omega) (by omega)]
      · rw [becT_out (by omega) (by omega)]; exact h2 j k (by omega) hk
end XB
