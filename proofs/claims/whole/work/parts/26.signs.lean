/-! THE CLASS: looks by who stands out -/
def sgf (f : Row) (i : Nat) : Int32 := sg (fun j => f (tI i (7 + j))) (f 3) 6
def bst (sgn : Row) (ex : Nat → Bool) : Nat → Option Nat
  | 0 => none
  | n + 1 => if ex n = true then bst sgn ex n else match bst sgn ex n with
    | none => some n
    | some b => if sgn n ≤ sgn b then some b else some n
def bI (o : Option Nat) : Int32 := match o with
  | none => -1
  | some b => nI b
theorem bst_lt {sgn : Row} {ex : Nat → Bool} : ∀ {n b : Nat}, bst sgn ex n = some b → b < n
  | 0, b, h => by cases h
  | n + 1, b, h => by
    unfold bst at h
    by_cases he : ex n = true
    · rw [if_pos he] at h; exact Nat.lt_succ_of_lt (bst_lt h)
    · rw [if_neg he] at h
      cases hb : bst sgn ex n with
      | none => rw [hb] at h; cases h; exact Nat.lt_succ_self _
      | some c =>
        rw [hb] at h
        by_cases hs : sgn n ≤ sgn c
        · simp only [if_pos hs] at h; cases h; exact Nat.lt_succ_of_lt (bst_lt hb)
        · simp only [if_neg hs] at h; cases h; exact Nat.lt_succ_self _
theorem sg_congr {c1 c2 : Row} {l1 l2 : Int32} (hl : l1 = l2) (hc : ∀ j, j < 6 → c1 j = c2 j) : ∀ n, n ≤ 6 → sg c1 l1 n = sg c2 l2 n
  | 0, _ => rfl
  | n + 1, h => by
    unfold sg
    rw [sg_congr hl hc n (by omega)]
    congr 1
    unfold sg1
    rw [hc n (by omega), hl]
    by_cases h5 : n < 5
    · rw [hc (n + 1) (by omega)]
    · simp [h5]
def exB (home : Nat) (se : Nat → Bool) : Nat → Bool := fun i => se i || Nat.beq i home
theorem exB_iff {home : Nat} {se : Nat → Bool} {i : Nat} : exB home se i = true ↔ se i = true ∨ i = home := by
  unfold exB
  rw [Bool.or_eq_true]
  constructor
  · intro h; rcases h with h | h
    · exact Or.inl h
    · exact Or.inr (Nat.eq_of_beq_eq_true h)
  · intro h; rcases h with h | h
    · exact Or.inl h
    · exact Or.inr (by rw [h]; exact Nat.beq_refl _)
def sgn1 (ly : Row) (home N : Nat) (s : Lks) : Lks := match bst (sgf s.1) (exB home s.2.1) N with
  | none => s
  | some t => lk ly home t s
def sgns (ly : Row) (home N : Nat) (s : Lks) (n : Nat) : Lks := itr (sgn1 ly home N) s n
theorem sgns_0 (ly : Row) (home N : Nat) (s : Lks) : sgns ly home N s 0 = s := itr_0 _ _
theorem sgns_s (ly : Row) (home N : Nat) (s : Lks) (n : Nat) : sgns ly home N s (n + 1) = sgn1 ly home N (sgns ly home N s n) := itr_s _ _ _
theorem lk_cl {ly : Row} {home t i j : Nat} {s : Lks} (hj : j < 6) : (lk ly home t s).1 (tI i (7 + j)) = s.1 (tI i (7 + j)) := by
  unfold lk
  by_cases h1 : t = home ∨ s.2.1 t = true
  · rw [if_pos h1]
  · rw [if_neg h1]
    by_cases h2 : 0 < ly t
    · rw [if_pos h2]
      show lkR ly t s.1 _ = _
      unfold lkR; rw [if_neg (by unfold tI; omega), if_neg (by unfold tI; omega), if_neg (by unfold tI; omega)]
    · rw [if_neg h2]
theorem sgf_lk {ly : Row} {home t i : Nat} {s : Lks} : sgf (lk ly home t s).1 i = sgf s.1 i := sg_congr (lk_keep (by decide)) (fun j hj => lk_cl hj) 6 (Nat.le_refl _)
theorem sgn1_keep {ly : Row} {home N k : Nat} {s : Lks} (hk : k < 7) : (sgn1 ly home N s).1 k = s.1 k := by
  unfold sgn1
  cases bst (sgf s.1) (exB home s.2.1) N with
  | none => rfl
  | some t => exact lk_keep hk
theorem sgns_keep {ly : Row} {home N k : Nat} {s : Lks} (hk : k < 7) (n : Nat) : (sgns ly home N s n).1 k = s.1 k := by
  induction n with
  | zero => rw [sgns_0]
  | succ n ih => rw [sgns_s, sgn1_keep hk, ih]
theorem sgn1_sgf {ly : Row} {home N i : Nat} {s : Lks} : sgf (sgn1 ly home N s).1 i = sgf s.1 i := by
  unfold sgn1
  cases bst (sgf s.1) (exB home s.2.1) N with
  | none => rfl
  | some t => exact sgf_lk
theorem sgns_sgf {ly : Row} {home N i : Nat} {s : Lks} (n : Nat) : sgf (sgns ly home N s n).1 i = sgf s.1 i := by
  induction n with
  | zero => rw [sgns_0]
  | succ n ih => rw [sgns_s, sgn1_sgf, ih]
theorem LK.w9 {mem : ab_N} {w N home i : Nat} {ly f : Row} {se ca : Nat → Bool} (h : LK mem w N home ly f se ca) (hi : i < 8) (v : Int32) : LK (ab_w mem (w + 3 + 2 * i) 9 v) w N home ly f se ca := by
  obtain ⟨⟨h1, h2, h3, h4, h5, h6, h7, h8⟩, h9, h10, h11, h12, h13, h14⟩ := h
  have ow : ∀ k, ab_w mem (w + 3 + 2 * i) 9 v w k = mem w k := fun k => w_ne _ _ (Or.inl (by omega))
  have o : ∀ a k, k ≠ 9 → ab_w mem (w + 3 + 2 * i) 9 v a k = mem a k := fun a k q => w_ne _ _ (Or.inr q)
  refine ⟨⟨by rw [ow]; exact h1, by rw [ow]; exact h2, h3, by rw [ow]; exact h4, by rw [ow]; exact h5, by rw [ow]; exact h6, by rw [ow]; exact h7, by rw [ow]; exact h8⟩, fun j k hj hk => ?_, fun j hj => ?_, fun j k hj hk => ?_, fun j hj => ?_, fun j hj hh => ?_, h14⟩
  · rw [o _ _ (by omega)]; exact h9 j k hj hk
  · rw [o _ _ (by decide)]; exact h10 j hj
  · rw [o _ _ (by omega)]; exact h11 j k hj hk
  · rw [o _ _ (by decide)]; exact h12 j hj
  · rw [o _ _ (by decide)]; exact h13 j hj hh
section XG
variable {l : Launch} {G : ab_G} {ol : ab_Ol} {d : Nat} {sh : ab_S} {rf : ab_R} {nx : Nat} {K : ab_K}
set_option maxHeartbeats 2000000 in
theorem s_countSigns (hS : St sh rf nx) {w N home : Nat} {ly f : Row} {se ca : Nat → Bool} {mem : ab_N} (hw : Wd w) (hN : N ≤ 8) (hR : LK mem w N home ly f se ca)
    (h : ∀ mem', Fr w mem mem' → LK mem' w N home ly f se ca → (∀ i, i < N → mem' (w + 3 + 2 * i) 9 = sgf f i) → K none sh rf mem' nx) : ab_Cx l G ol (d + 2) mWo_countSigns [.ref w] sh rf mem nx K := by
  suffices loop : ∀ n i, i + n = N → ∀ mem', Fr w mem mem' → LK mem' w N home ly f se ca → (∀ j, j < i → mem' (w + 3 + 2 * j) 9 = sgf f j) → ab_Go l G ol (d + 1) mWo_countSigns (ab_mc mWo_countSigns) (ab_ms mWo_countSigns) (fun r sh rf mem nx _ _ => K r sh rf mem nx) 2 [.ref w, .int (nI i)] [] sh rf mem' nx 0 0 from
    e_mWo_countSigns (loop N 0 (by omega) mem Fr.rfl hR (fun j q => by omega))
  intro n
  induction n with
  | zero =>
    intro i hi mem' hF hR' hs
    have : i = N := by omega
    subst this
    exact h_mWo_countSigns_2 ⟨wd_is hS hw, fun _ => h mem' hF hR' hs, fun q => absurd (by rw [hR'.1.2.1]; exact Int32.le_refl _) q⟩
  | succ n ih =>
    intro i hi mem1 hF hR1 hs
    have hiN : i < N := by omega
    have hi8 : i < 8 := by omega
    refine h_mWo_countSigns_2 ⟨wd_is hS hw, fun q => absurd q (by rw [hR1.1.2.1]; exact nI_ge hiN (by omega)), fun _ => ⟨wd_is hS hw, wd_acc hS hw hi8 ⟨wd_is hS hw, wd_acc hS hw hi8 ⟨wd_is hS hw, td_is hS (wd_td hw hi8), s_signsAt hS (wd_td hw hi8) ⟨_, rfl, td_is hS (wd_td hw hi8), ?_⟩⟩⟩⟩⟩
    have es : sg (mem1 (w + 3 + 2 * i + 1)) (mem1 w 3) 6 = sgf f i := by
      refine sg_congr hR1.1.2.2.2.2.1 (fun j hj => ?_) 6 (Nat.le_refl _)
      rw [show w + 3 + 2 * i + 1 = w + 4 + 2 * i by omega]
      exact hR1.2.2.2.1 i j hiN hj
    rw [es]
    show ab_Go l G ol (d + 1) mWo_countSigns _ _ _ 2 [.ref w, .int (nI i + 1)] [] sh rf (ab_w mem1 (w + 3 + 2 * i) 9 (sgf f i)) nx 0 0
    rw [nI_1]
    refine ih (i + 1) (by omega) _ (hF.trans (Fr.w10 hi8)) (hR1.w9 hi8 _) (fun j hj => ?_)
    by_cases hji : j = i
    · subst hji; exact w_eq _ _ _ _
    · rw [w_ne _ _ (Or.inl (by omega))]; exact hs j (by omega)
set_option maxHeartbeats 2000000 in
theorem s_mostSignsUnlooked (hS : St sh rf nx) {w N home : Nat} {ly f : Row} {se ca : Nat → Bool} {mem : ab_N} (hw : Wd w) (hN : N ≤ 8) (hR : LK mem w N home ly f se ca) (hs : ∀ i, i < N → mem (w + 3 + 2 * i) 9 = sgf f i)
    (h : K (some (.int (bI (bst (sgf f) (exB home se) N)))) sh rf mem nx) : ab_Cx l G ol (d + 1) mWo_mostSignsUnlooked [.ref w] sh rf mem nx K := by
  suffices loop : ∀ n i, i + n = N → ab_Go l G ol d mWo_mostSignsUnlooked (ab_mc mWo_mostSignsUnlooked) (ab_ms mWo_mostSignsUnlooked) (fun r sh rf mem nx _ _ => K r sh rf mem nx) 4 [.ref w, .int (bI (bst (sgf f) (exB home se) i)), .int (nI i)] [] sh rf mem nx 0 0 from
    e_mWo_mostSignsUnlooked (loop N 0 (by omega))
  intro n
  induction n with
  | zero =>
    intro i hi
    have : i = N := by omega
    subst this
    exact h_mWo_mostSignsUnlooked_4 ⟨wd_is hS hw, fun _ => ⟨trivial, h⟩, fun q => absurd (by rw [hR.1.2.1]; exact Int32.le_refl _) q⟩
  | succ n ih =>
    intro i hi
    have hiN : i < N := by omega
    have hi8 : i < 8 := by omega
    have nxt : ∀ v, v = bI (bst (sgf f) (exB home se) (i + 1)) → ab_Go l G ol d mWo_mostSignsUnlooked (ab_mc mWo_mostSignsUnlooked) (ab_ms mWo_mostSignsUnlooked) (fun r sh rf mem nx _ _ => K r sh rf mem nx) 4 [.ref w, .int v, .int (nI i + 1)] [] sh rf mem nx 0 0 := by
      rintro _ rfl
      rw [nI_1]
      exact ih (i + 1) (by omega)
    have h12 := hR.2.2.2.2.1 i hiN
    refine h_mWo_mostSignsUnlooked_4 ⟨wd_is hS hw, fun q => absurd q (by rw [hR.1.2.1]; exact nI_ge hiN (by omega)), fun _ => ⟨wd_is hS hw, wd_acc hS hw hi8 ⟨td_is hS (wd_td hw hi8), fun q => nxt _ ?_, fun q => ?_⟩⟩⟩
    · have he : exB home se i = true := by
        rw [exB_iff]
        by_cases hc : se i = true ∨ i = home
        · exact hc
        · rw [if_neg hc] at h12; exact absurd h12 q
      rw [bst, if_pos he]
    · have he : ¬ exB home se i = true := by
        rw [exB_iff]
        intro hc
        rw [if_pos hc] at h12
        rw [h12] at q
        exact absurd q (by decide)
      cases hb : bst (sgf f) (exB home se) i with
      | none =>
        refine ⟨fun _ => nxt _ ?_, fun q2 => absurd (by decide) q2⟩
        rw [bst, if_neg he, hb]
        rfl
      | some b =>
        have hbi := bst_lt hb
        refine ⟨fun q2 => absurd q2 (nI_pos (by omega)), fun _ => ⟨wd_is hS hw, wd_acc hS hw hi8 ⟨td_is hS (wd_td hw hi8), wd_is hS hw, wd_acc hS hw (i := b) (by omega) ⟨td_is hS (wd_td hw (by omega)), fun q3 => nxt _ ?_, fun q3 => nxt _ ?_⟩⟩⟩⟩
        · rw [hs i hiN, hs b (by omega)] at q3
          rw [bst, if_neg he, hb]
          simp only [if_pos q3]
        · rw [hs i hiN, hs b (by omega)] at q3
          rw [bst, if_neg he, hb]
          simp only [if_neg q3]
          rfl
set_option maxHeartbeats 2000000 in
theorem s_lookBySigns (hS : St sh rf nx) {w N home Lk : Nat} {ly : Row} {s : Lks} {mem : ab_N} (hw : Wd w) (hN : N ≤ 8) (hL : Lk ≤ 8) (h4 : s.1 4 = nI Lk) (hR : LK mem w N home ly s.1 s.2.1 s.2.2)
    (h : ∀ mem', Fr w mem mem' → LK mem' w N home ly (sgns ly home N s (min Lk N)).1 (sgns ly home N s (min Lk N)).2.1 (sgns ly home N s (min Lk N)).2.2 → K (some (.int (cntB (sgns ly home N s (min Lk N)).2.2 N - cntB s.2.2 N))) sh rf mem' nx) : ab_Cx l G ol (d + 3) mWo_lookBySigns [.ref w] sh rf mem nx K := by
  have h4n : ∀ n, (sgns ly home N s n).1 4 = nI Lk := fun n => (sgns_keep (by decide) n).trans h4
  have hm4 : mem w 4 = nI Lk := hR.1.2.2.2.2.2.1.trans h4
  refine e_mWo_lookBySigns ⟨wd_is hS hw, fun q => ⟨wd_is hS hw, s_countSigns hS hw hN hR fun mem0 hF0 hR0 hs0 => ⟨rfl, ?_⟩⟩, fun q => ⟨trivial, ?_⟩⟩
  · suffices loop : ∀ n i, i + n = min Lk N → ∀ mem' (c : Int32), Fr w mem mem' → LK mem' w N home ly (sgns ly home N s i).1 (sgns ly home N s i).2.1 (sgns ly home N s i).2.2 → (∀ j, j < N → mem' (w + 3 + 2 * j) 9 = sgf s.1 j) → c = cntB (sgns ly home N s i).2.2 N - cntB s.2.2 N → ∀ u3, ab_Go l G ol (d + 2) mWo_lookBySigns (ab_mc mWo_lookBySigns) (ab_ms mWo_lookBySigns) (fun r sh rf mem nx _ _ => K r sh rf mem nx) 17 [.ref w, .int c, .int (nI i), u3] [] sh rf mem' nx 0 0 from
      loop (min Lk N) 0 (by omega) mem0 0 hF0 (by rw [sgns_0]; exact hR0) hs0 (by rw [sgns_0, Int32.sub_self]) _
    intro n
    induction n with
    | zero =>
      intro i hi mem' c hF hR' hs hc u3
      have e : i = min Lk N := by omega
      subst e
      subst hc
      have hfin := h mem' hF hR'
      refine h_mWo_lookBySigns_17 ⟨wd_is hS hw, fun _ => ⟨trivial, hfin⟩, fun q => ⟨wd_is hS hw, fun _ => ⟨trivial, hfin⟩, fun q2 => ?_⟩⟩
      exfalso
      rw [hR'.1.2.2.2.2.2.1, h4n] at q
      rw [hR'.1.2.1] at q2
      rcases Nat.le_total Lk N with g | g
      · exact q (by rw [Nat.min_eq_left g]; exact Int32.le_refl _)
      · exact q2 (by rw [Nat.min_eq_right g]; exact Int32.le_refl _)
    | succ n ih =>
      intro i hi mem1 c hF hR1 hs hc u3
      have hiL : i < Lk := by omega
      have hiN : i < N := by omega
      have hnx : sgns ly home N s (i + 1) = sgn1 ly home N (sgns ly home N s i) := sgns_s _ _ _ _ _
      have hsg : ∀ j, j < N → mem1 (w + 3 + 2 * j) 9 = sgf (sgns ly home N s i).1 j := fun j hj => by rw [sgns_sgf]; exact hs j hj
      have h4i := h4n i
      generalize sgns ly home N s i = g at *
      refine h_mWo_lookBySigns_17 ⟨wd_is hS hw, fun q => absurd q (by rw [hR1.1.2.2.2.2.2.1, h4i]; exact nI_ge hiL (by omega)), fun _ => ⟨wd_is hS hw, fun q => absurd q (by rw [hR1.1.2.1]; exact nI_ge hiN (by omega)), fun _ => ⟨wd_is hS hw, s_mostSignsUnlooked hS hw hN hR1 hsg ⟨_, rfl, ?_⟩⟩⟩⟩
      unfold sgn1 at hnx
      cases hb : bst (sgf g.1) (exB home g.2.1) N with
      | none =>
        rw [hb] at hnx
        refine ⟨fun _ => ?_, fun q => absurd (by decide) q⟩
        rw [nI_1]
        refine ih (i + 1) (by omega) mem1 c hF (by rw [hnx]; exact hR1) hs (by rw [hnx]; exact hc) _
      | some t =>
        rw [hb] at hnx
        have hnx : sgns ly home N s (i + 1) = lk ly home t g := hnx
        have ht := bst_lt hb
        refine ⟨fun q => absurd q (nI_pos (by omega)), fun _ => ⟨wd_is hS hw, wd_acc hS hw (i := t) (by omega) ⟨td_is hS (wd_td hw (by omega)), s_isCaught hS (wd_td hw (by omega)) ?_⟩⟩⟩
        have hR3 := hR1.look ht
        have hF3 : Fr w mem (caughtMem mem1 (w + 3 + 2 * t)) := hF.trans (Fr.caught (by omega))
        have hs3 : ∀ j, j < N → caughtMem mem1 (w + 3 + 2 * t) (w + 3 + 2 * j) 9 = sgf s.1 j := by
          intro j hj
          by_cases hjt : j = t
          · subst hjt
            have : caughtMem mem1 (w + 3 + 2 * j) (w + 3 + 2 * j) 9 = mem1 (w + 3 + 2 * j) 9 := by
              unfold caughtMem; split
              · simp
              · exact w_ne _ _ (Or.inr (by decide))
            rw [this]; exact hs j hj
          · rw [cm_out (by omega)]; exact hs j hj
        have hcnt := lk_cnt (ly := ly) (home := home) (s := g) hR1.2.2.2.2.2.2 ht
        by_cases hlc : lkC ly home t g
        · rw [if_pos ((hR1.ans ht).mpr hlc)]
          refine ⟨_, rfl, fun q => absurd q (by decide), fun _ => ?_⟩
          rw [nI_1]
          refine ih (i + 1) (by omega) _ _ hF3 (by rw [hnx]; exact hR3) hs3 ?_ _
          rw [hnx, hcnt.1 hlc, hc, Int32.sub_eq_add_neg, Int32.sub_eq_add_neg, Int32.add_assoc, Int32.add_assoc, Int32.add_comm 1]
        · rw [if_neg (fun q => hlc ((hR1.ans ht).mp q))]
          refine ⟨_, rfl, fun _ => ?_, fun q => absurd rfl q⟩
          rw [nI_1]
          refine ih (i + 1) (by omega) _ _ hF3 (by rw [hnx]; exact hR3) hs3 ?_ _
          rw [hnx, hcnt.2 hlc, hc]
  · have hL0 : Lk = 0 := by
      rw [hm4] at q
      rcases Nat.eq_zero_or_pos Lk with g | g
      · exact g
      · exact absurd q (nI_ne0 g (by omega))
    have := h mem Fr.rfl (by rw [hL0, Nat.zero_min, sgns_0]; exact hR)
    rw [hL0, Nat.zero_min, sgns_0, Int32.sub_self] at this
    exact this
end XG
