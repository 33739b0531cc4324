/-! THE CLASS: days, and what is only thought -/
def lea (v : Nat → Int32) (a : Nat) : Nat → Option (Nat × Int32)
  | 0 => none
  | m + 1 => match lea v a m with
    | none => some (a + m, v (a + m))
    | some q => if q.2 ≤ v (a + m) then some q else some (a + m, v (a + m))
def LeR (mem : ab_N) (o : Option (Nat × Int32)) : Prop := match o with
  | none => mem 61 0 = 0
  | some q => mem 61 0 = 1 ∧ mem 61 1 = nI q.1 ∧ mem 61 2 = q.2
def leA (o : Option (Nat × Int32)) (w : Int32) : Int32 := match o with
  | none => 0
  | some q => if w = 0 then nI q.1 else q.2
theorem lea_some (v : Nat → Int32) (a : Nat) : ∀ m, 0 < m → ∃ q, lea v a m = some q
  | 0, h => by omega
  | m + 1, _ => by
    rw [lea]
    cases lea v a m with
    | none => exact ⟨_, rfl⟩
    | some q => simp only; split <;> exact ⟨_, rfl⟩
/-- only thought, the least and the stack change -/
def FrT (mem mem' : ab_N) : Prop := ∀ a, a ≠ 3 → (a < 42 ∨ 62 ≤ a) → mem' a = mem a
theorem FrT.rfl {mem : ab_N} : FrT mem mem := fun _ _ _ => Eq.refl _
theorem FrT.trans {m1 m2 m3 : ab_N} (h1 : FrT m1 m2) (h2 : FrT m2 m3) : FrT m1 m3 := fun a h3 h => (h2 a h3 h).trans (h1 a h3 h)
theorem FrT.of {mem mem' : ab_N} (h : Fr 42 mem mem') : FrT mem mem' := fun a h3 ha => h.1 a (by omega) h3
theorem FrT.w {mem : ab_N} {a k : Nat} {v : Int32} (h : 42 ≤ a ∧ a < 62) : FrT mem (ab_w mem a k v) := fun b _ hb => ab_w_ne _ _ _ (by omega)
theorem FrT.bec {mem mem' : ab_N} (h : ∀ a, (a < 42 ∨ 42 + 19 ≤ a) → mem' a = mem a) : FrT mem mem' := fun b _ hb => h b (by omega)
theorem Wf.l3 {N D a : Nat} {f : Row} (h : Wf N D f) (h1 : 1 ≤ a) (h2 : a ≤ 999) : Wf N D (upd f 3 (nI a)) := by
  obtain ⟨w1, w3, w4, w5, w2, wt⟩ := h
  have u : ∀ k, k ≠ 3 → upd f 3 (nI a) k = f k := fun k hk => pk_un hk
  refine ⟨by rw [u 1 (by decide)]; exact w1, ⟨a, h1, h2, pk_us⟩, by rw [u 4 (by decide)]; exact w4, by rw [u 5 (by decide)]; exact w5, by rw [u 2 (by decide)]; exact w2, fun i hi => ?_⟩
  have := wt i hi
  unfold TrW at *
  rw [u _ (by unfold tI; omega), u _ (by unfold tI; omega), u _ (by unfold tI; omega), u _ (by unfold tI; omega), u _ (by unfold tI; omega)]
  exact this
theorem Wf.l4 {N D a : Nat} {f : Row} (h : Wf N D f) (h2 : a ≤ 8) : Wf N D (upd f 4 (nI a)) := by
  obtain ⟨w1, w3, w4, w5, w2, wt⟩ := h
  have u : ∀ k, k ≠ 4 → upd f 4 (nI a) k = f k := fun k hk => pk_un hk
  refine ⟨by rw [u 1 (by decide)]; exact w1, by rw [u 3 (by decide)]; exact w3, ⟨a, h2, pk_us⟩, by rw [u 5 (by decide)]; exact w5, by rw [u 2 (by decide)]; exact w2, fun i hi => ?_⟩
  have := wt i hi
  unfold TrW at *
  rw [u _ (by unfold tI; omega), u _ (by unfold tI; omega), u _ (by unfold tI; omega), u _ (by unfold tI; omega), u _ (by unfold tI; omega)]
  exact this
/-- a traveller's number changes within its bounds -/
theorem Wf.tr {N D t k : Nat} {f : Row} (h : Wf N D f) {v : Int32} (hk : (k = 0 ∧ ∃ a, a < 6 ∧ v = nI a) ∨ (k = 1 ∧ ∃ a, a ≤ 99 ∧ v = nI a) ∨ (k = 2 ∧ ∃ a, a ≤ 99 ∧ v = nI a)) : Wf N D (upd f (tI t k) v) := by
  obtain ⟨w1, w3, w4, w5, w2, wt⟩ := h
  have u : ∀ q, q ≠ tI t k → upd f (tI t k) v q = f q := fun q hq => pk_un hq
  refine ⟨by rw [u 1 (by unfold tI; omega)]; exact w1, by rw [u 3 (by unfold tI; omega)]; exact w3, by rw [u 4 (by unfold tI; omega)]; exact w4, by rw [u 5 (by unfold tI; omega)]; exact w5, by rw [u 2 (by unfold tI; omega)]; exact w2, fun i hi => ?_⟩
  have hh := wt i hi
  unfold TrW at *
  rw [u (tI i 4) (by unfold tI; omega), u (tI i 6) (by unfold tI; omega)]
  by_cases e : i = t
  · subst e
    refine ⟨?_, ?_, ?_, hh.2.2.2⟩
    · by_cases k0 : k = 0
      · subst k0; rw [pk_us]; rcases hk with q | q | q
        · exact q.2
        · omega
        · omega
      · rw [u _ (by unfold tI; omega)]; exact hh.1
    · by_cases k0 : k = 1
      · subst k0; rw [pk_us]; rcases hk with q | q | q
        · omega
        · exact q.2
        · omega
      · rw [u _ (by unfold tI; omega)]; exact hh.2.1
    · by_cases k0 : k = 2
      · subst k0; rw [pk_us]; rcases hk with q | q | q
        · omega
        · omega
        · exact q.2
      · rw [u _ (by unfold tI; omega)]; exact hh.2.2.1
  · rw [u _ (by unfold tI; omega), u _ (by unfold tI; omega), u _ (by unfold tI; omega)]
    exact hh
def behF (g : Row) (N : Nat) (w : Int32) : Int32 := if w = 0 then padF g N else if w = 1 then smF g 4 N else if w = 2 then smF g 5 N else sgf g (Int32.toNatClampNeg (w - 3))
noncomputable def alI (f : Row) (N t : Nat) : Int32 := @ite _ (alone f N t) (Classical.propDecidable _) 1 0
noncomputable def soF (ct : Ct) (N : Nat) (f : Row) (t : Nat) : Nat → Int32
  | 0 => 0
  | n + 1 => soF ct N f t n + alI (pasF ct 8 N f (n + 1)).1 N t
def absI (a : Int32) : Int32 := if 0 ≤ a then a else -a
def dfS (ct : Ct) (N t : Nat) (g : Row) (pl : Row) : Nat → Int32
  | 0 => 0
  | k + 1 => dfS ct N t g pl k + (if pl k = -1000000005 then 0 else absI ((pasF ct 8 N g k).1 (tI t 4) - pl k))
theorem pas_1 (ct : Ct) (home N : Nat) (f : Row) (n : Nat) : (pasF ct home N (pasF ct home N f n).1 1).1 = (pasF ct home N f (n + 1)).1 := by
  rw [pasF_s, pasF_s, pasF_0]; rfl
theorem RW.own10 {mem : ab_N} {w N : Nat} {f : Row} (h : RW mem w N f) (v : Int32) : RW (ab_w mem w 10 v) w N f := by
  obtain ⟨⟨a1, a2, a3, a4, a5, a6, a7, a8⟩, h9, h10⟩ := h
  have ow : ∀ j, j ≠ 10 → ab_w mem w 10 v w j = mem w j := fun j hj => w_ne _ _ (Or.inr hj)
  exact ⟨⟨by rw [ow 7 (by decide)]; exact a1, by rw [ow 2 (by decide)]; exact a2, a3, by rw [ow 6 (by decide)]; exact a4, by rw [ow 3 (by decide)]; exact a5, by rw [ow 4 (by decide)]; exact a6, by rw [ow 5 (by decide)]; exact a7, by rw [ow 8 (by decide)]; exact a8⟩, fun i k hi hk => by rw [w_ne _ _ (Or.inl (by omega))]; exact h9 i k hi hk, fun i k hi hk => by rw [w_ne _ _ (Or.inl (by omega))]; exact h10 i k hi hk⟩
section XQ
variable {l : Launch} {G : ab_G} {ol : ab_Ol} {d : Nat} {sh : ab_S} {rf : ab_R} {nx : Nat} {K : ab_K} {mem : ab_N} {N : Nat} {f : Row}
theorem s_lbegin (hS : St sh rf nx) (h : K none sh rf (ab_w mem 61 0 0) nx) : ab_Cx l G ol (d + 1) mLe_begin [.ref 61] sh rf mem nx K := e_mLe_begin ⟨is_of hS rfl rfl, Or.inl rfl, h⟩
theorem s_offer (hS : St sh rf nx) {v : Nat → Int32} {a m : Nat} {p x : Int32} (hp : p = nI (a + m)) (hx : x = v (a + m)) (hL : LeR mem (lea v a m)) (h : ∀ mem', (∀ q, q ≠ 61 → mem' q = mem q) → LeR mem' (lea v a (m + 1)) → K none sh rf mem' nx) : ab_Cx l G ol (d + 1) mLe_offer [.ref 61, .int p, .int x] sh rf mem nx K := by
  have i1 : ab_is sh nx 61 1 := is_of hS rfl rfl
  subst hp; subst hx
  have wr : ∀ o', o' = some (a + m, v (a + m)) → LeR (ab_w (ab_w (ab_w mem 61 0 1) 61 1 (nI (a + m))) 61 2 (v (a + m))) o' := by
    rintro _ rfl
    exact ⟨by rw [w_ne _ _ (by omega), w_ne _ _ (by omega), w_eq], by rw [w_ne _ _ (by omega), w_eq], w_eq _ _ _ _⟩
  have ou : ∀ q, q ≠ 61 → ab_w (ab_w (ab_w mem 61 0 1) 61 1 (nI (a + m))) 61 2 (v (a + m)) q = mem q := fun q hq => by rw [ab_w_ne _ _ _ hq, ab_w_ne _ _ _ hq, ab_w_ne _ _ _ hq]
  refine e_mLe_offer ⟨i1, fun q => ⟨i1, Or.inr rfl, i1, i1, h _ ou (wr _ ?_)⟩, fun q => ⟨i1, fun q2 => h mem (fun _ _ => rfl) ?_, fun q2 => ⟨i1, Or.inr rfl, i1, i1, h _ ou (wr _ ?_)⟩⟩⟩
  · rw [lea]
    cases e : lea v a m with
    | none => rfl
    | some o => rw [e] at hL; exact absurd (hL.1.symm.trans q) (by decide)
  · rw [lea]
    cases e : lea v a m with
    | none => rw [e] at hL; exact absurd hL q
    | some o =>
      rw [e] at hL
      simp only
      rw [if_pos (by rw [← hL.2.2]; exact q2)]
      exact hL
  · rw [lea]
    cases e : lea v a m with
    | none => rfl
    | some o =>
      rw [e] at hL
      simp only
      rw [if_neg (by rw [← hL.2.2]; exact q2)]
theorem s_go (hS : St sh rf nx) {w home D n : Nat} (hw : Wd w) (hN : N ≤ 8) {o : Option (Row × Nat)} (hT : LW sh rf nx mem (mem (w + 2) 0) o) (hR : RW mem w N f) (hA : mem w 10 = absV home) (hW : Wf N D f) (hn : D + n ≤ 100000)
    (h : ∀ mem', Fr w mem mem' → RW mem' w N (pasF (ctO o) home N f n).1 → K (some (.int (pasF (ctO o) home N f n).2)) sh rf mem' nx) : ab_Cx l G ol (d + 5) mWo_pass [.ref w, .int (nI n)] sh rf mem nx K := by
  obtain ⟨Lk, h1, h2, h3, h4⟩ := hW.ok (home := home) (ctO_rg o) hn
  exact s_pass hS hw hN (by omega) (costOK hS hw o) hT hR hA h1 h2 h3 h4 h
/-- thought becomes now, with a change: then it goes on -/
theorem s_think (hS : St sh rf nx) (hN : N ≤ 8) (hR : RW mem 4 N f) {o : Option (Row × Nat)} (hT : LW sh rf nx mem (mem 6 0) o) (h : ∀ mem', FrT mem mem' → mem' 61 = mem 61 → RW mem' 42 N f → mem' 42 10 = absV 8 → LW sh rf nx mem' (mem' 44 0) o → K none sh rf mem' nx) : ab_Cx l G ol (d + 2) mWo_become [.ref 42, .ref 4] sh rf mem nx K := by
  refine s_wbecome hS w42 w4 (by decide) hN hR fun mem' hF hR' hc ha => h mem' (FrT.bec hF) (hF 61 (by omega)) hR' (ha.trans (by decide)) ?_
  have := hc 0 (by decide)
  rw [show (42 + 2 : Nat) = 44 from rfl, show (4 + 2 : Nat) = 6 from rfl] at this
  rw [this]
  exact hT.mono fun a ha => hF a (by omega)
theorem x_days (hS : St sh rf nx) (hN : N ≤ 8) (hR : RW mem 4 N f) {D : Nat} (hW : Wf N D f) (hD : D ≤ 9999) {o : Option (Row × Nat)} (hT : LW sh rf nx mem (mem 6 0) o) (hA : mem 4 10 = absV 8) {n : Int32} (hB : ¬ (1 ≤ n ∧ n ≤ 100) → K (some (.int (-1000000001))) sh rf mem nx) (hK : ∀ k, 1 ≤ k → k ≤ 100 → n = nI k → ∀ mem', Fr 4 mem mem' → RW mem' 4 N (pasF (ctO o) 8 N f (min k (9999 - D))).1 → K (some (.int (pasF (ctO o) 8 N f (min k (9999 - D))).2)) sh rf mem' nx) : ab_Cx l G ol (d + 6) mX_days [.ref 0, .int n] sh rf mem nx K := by
  have i0 : ab_is sh nx 0 8 := is_of hS rfl rfl
  have i4 : ab_is sh nx 4 7 := is_of hS rfl rfl
  refine e_mX_days ⟨by decide, s_within ⟨_, rfl, br1 (fun q => ?_) (fun q => ⟨trivial, hB q⟩)⟩⟩
  obtain ⟨k, hk, rfl⟩ := rg_of (M := 100) (by omega) ⟨Int32.le_trans (by decide) q.1, q.2⟩
  have k1 : 1 ≤ k := (nI_leI (a := 1) (by omega) (by omega)).mp q.1
  refine ⟨i0, rd_of hS rfl rfl ⟨i0, rd_of hS rfl rfl ⟨i4, by decide, s_min ⟨_, rfl, i4, ?_⟩⟩⟩⟩
  have e : (if (9999 : Int32) - mem 4 6 < nI k then (9999 : Int32) - mem 4 6 else nI k) = nI (min k (9999 - D)) := by
    rw [hR.1.2.2.2.1, hW.2.2.2.2.1, show (9999 : Int32) = nI 9999 from rfl, pk_sub hD]
    by_cases z : nI (9999 - D) < nI k
    · rw [if_pos z]
      have := (nI_ltI (by omega) (by omega)).mp z
      congr 1; omega
    · rw [if_neg z]
      have : k ≤ 9999 - D := by
        rcases Nat.lt_or_ge (9999 - D) k with g | g
        · exact absurd (nI_lt g (by omega)) z
        · exact g
      congr 1; omega
  rw [e]
  exact s_go (d := d) hS w4 hN hT hR hA hW (by omega) fun mem' q1 q2 => ⟨_, rfl, trivial, hK k k1 hk rfl mem' q1 q2⟩
theorem x_behind (hS : St sh rf nx) (hN : N ≤ 8) (hR : RW mem 4 N f) {D : Nat} (hW : Wf N D f) (hD : D ≤ 9999) {o : Option (Row × Nat)} (hT : LW sh rf nx mem (mem 6 0) o) {n w : Int32} (hB : ¬ ((0 ≤ n ∧ n ≤ 100) ∧ (0 ≤ w ∧ w ≤ nI (2 + N))) → K (some (.int (-1000000001))) sh rf mem nx) (hK : ∀ k j, k ≤ 100 → j ≤ 2 + N → n = nI k → w = nI j → ∀ mem', FrT mem mem' → K (some (.int (behF (pasF (ctO o) 8 N f k).1 N w))) sh rf mem' nx) : ab_Cx l G ol (d + 6) mX_behind [.ref 0, .int n, .int w] sh rf mem nx K := by
  have i0 : ab_is sh nx 0 8 := is_of hS rfl rfl
  have i4 : ab_is sh nx 4 7 := is_of hS rfl rfl
  have i42 : ab_is sh nx 42 7 := is_of hS rfl rfl
  have e2 : (2 : Int32) + mem 4 2 = nI (2 + N) := by rw [hR.1.2.1]; exact nI_add 2 N
  refine e_mX_behind ⟨by decide, s_within ⟨_, rfl, br0 (fun q => ⟨i0, rd_of hS rfl rfl ⟨i4, by decide, ?_⟩⟩) (fun q => ⟨trivial, hB fun z => q z.1⟩)⟩⟩
  rw [e2]
  refine s_within ⟨_, rfl, br1 (fun q2 => ?_) (fun q2 => ⟨trivial, hB fun z => q2 z.2⟩)⟩
  obtain ⟨k, hk, rfl⟩ := rg_of (M := 100) (by omega) q
  obtain ⟨j, hj, rfl⟩ := rg_of (M := 2 + N) (by omega) q2
  refine ⟨i0, rd_of hS rfl rfl ⟨i0, rd_of hS rfl rfl ⟨i42, s_think (d := d + 3) hS hN hR hT fun mem1 F1 _ R1 A1 T1 => ⟨rfl, i0, rd_of hS rfl rfl ⟨i42, s_go (d := d) hS w42 hN T1 R1 A1 hW (by omega) fun mem2 F2 R2 => ⟨_, rfl, ?_⟩⟩⟩⟩⟩⟩
  have hk := hK k j hk hj rfl rfl mem2 (F1.trans (FrT.of F2))
  unfold behF at hk
  refine ⟨fun c => ?_, fun c0 => ⟨fun c => ?_, fun c1 => ⟨fun c => ?_, fun c2 => ?_⟩⟩⟩
  · rw [if_pos c] at hk; exact ⟨i0, rd_of hS rfl rfl ⟨i42, s_pad hS w42 hN R2 ⟨_, rfl, trivial, hk⟩⟩⟩
  · rw [if_neg c0, if_pos c] at hk; exact ⟨i0, rd_of hS rfl rfl ⟨i42, s_claimedOfAll hS w42 hN R2 ⟨_, rfl, trivial, hk⟩⟩⟩
  · rw [if_neg c0, if_neg c1, if_pos c] at hk; exact ⟨i0, rd_of hS rfl rfl ⟨i42, s_caughtOfAll hS w42 hN R2 ⟨_, rfl, trivial, hk⟩⟩⟩
  · rw [if_neg c0, if_neg c1, if_neg c2] at hk
    have j3 : 3 ≤ j := by
      rcases Nat.lt_or_ge j 3 with g | g
      · exfalso
        have : j = 0 ∨ j = 1 ∨ j = 2 := by omega
        rcases this with rfl | rfl | rfl
        · exact c0 rfl
        · exact c1 rfl
        · exact c2 rfl
      · exact g
    have e3 : nI j - 3 = nI (j - 3) := pk_sub (b := 3) j3
    rw [e3] at hk ⊢
    rw [cl_nI (by omega)] at hk
    have h8 : j - 3 < 8 := by omega
    refine ⟨i0, rd_of hS rfl rfl ⟨i42, wd_acc hS w42 h8 ⟨i0, rd_of hS rfl rfl ⟨i42, td_is hS (wd_td w42 h8), s_signsAt hS (wd_td w42 h8) ⟨_, rfl, trivial, ?_⟩⟩⟩⟩⟩
    rw [R2.sg (by omega)]
    exact hk
def vLine (ct : Ct) (N : Nat) (f : Row) (n : Nat) : Nat → Int32 := fun a => padF (pasF ct 8 N (upd f 3 (nI a)) n).1 N
def vLook (ct : Ct) (N : Nat) (f : Row) (n : Nat) (p : Int32) : Nat → Int32 := fun a => padF (pasF ct 8 N (upd f 4 (nI a)) n).1 N + p * nI a * nI n
def vOut (ct : Ct) (N : Nat) (f : Row) (n : Nat) : Nat → Int32 := fun a => padF (pasF ct a N f n).1 N
def vBent (ct : Ct) (N : Nat) (f : Row) (t sz : Nat) (pl : Row) : Nat → Int32 := fun a => dfS ct N t (upd f (tI t 2) (nI a)) pl sz
theorem leA_0 {o : Option (Nat × Int32)} {q : Nat × Int32} (h : o = some q) {w : Int32} (e : w = 0) : leA o w = nI q.1 := by subst h; exact if_pos e
theorem leA_1 {o : Option (Nat × Int32)} {q : Nat × Int32} (h : o = some q) {w : Int32} (e : ¬ w = 0) : leA o w = q.2 := by subst h; exact if_neg e
/-- now stays as it is while only thought goes on -/
theorem RW.T {mem' : ab_N} {w : Nat} (hw : w = 4 ∨ w = 23) (h : RW mem w N f) (hN : N ≤ 8) (hF : FrT mem mem') : RW mem' w N f := by
  have e : ∀ a, w ≤ a → a < w + 19 → mem' a = mem a := fun a h1 h2 => hF a (by omega) (by omega)
  exact h.own (fun k => by rw [e w (by omega) (by omega)]) (fun i k hi _ => by rw [e _ (by omega) (by omega)]) (fun i j hi _ => by rw [e _ (by omega) (by omega)])
theorem LW.T {mem' : ab_N} {k : Nat} {o : Option (Row × Nat)} (h : LW sh rf nx mem (mem 6 k) o) (hF : FrT mem mem') : LW sh rf nx mem' (mem' 6 k) o := by
  rw [hF 6 (by decide) (by omega)]
  exact h.mono fun a ha => hF a (by omega) (by omega)
set_option maxHeartbeats 4000000 in
theorem x_bestLine (hS : St sh rf nx) (hN : N ≤ 8) (hR : RW mem 4 N f) {D : Nat} (hW : Wf N D f) (hD : D ≤ 9999) {o : Option (Row × Nat)} (hT : LW sh rf nx mem (mem 6 0) o) {n w : Int32} (hB : ¬ ((1 ≤ n ∧ n ≤ 30) ∧ (0 ≤ w ∧ w ≤ 1)) → K (some (.int (-1000000001))) sh rf mem nx) (hK : ∀ k, 1 ≤ k → k ≤ 30 → n = nI k → (0 ≤ w ∧ w ≤ 1) → ∀ mem', FrT mem mem' → K (some (.int (leA (lea (vLine (ctO o) N f k) 1 120) w))) sh rf mem' nx) : ab_Cx l G ol (d + 6) mX_bestLine [.ref 0, .int n, .int w] sh rf mem nx K := by
  have i0 : ab_is sh nx 0 8 := is_of hS rfl rfl
  have i42 : ab_is sh nx 42 7 := is_of hS rfl rfl
  have i61 : ab_is sh nx 61 1 := is_of hS rfl rfl
  refine e_mX_bestLine ⟨by decide, s_within ⟨_, rfl, br0 (fun q => ⟨by decide, s_within ⟨_, rfl, br1 (fun q2 => ⟨i0, rd_of hS rfl rfl ⟨i61, s_lbegin hS ⟨rfl, ?_⟩⟩⟩) (fun q2 => ⟨trivial, hB fun z => q2 z.2⟩)⟩⟩) (fun q => ⟨trivial, hB fun z => q z.1⟩)⟩⟩
  obtain ⟨k, hk, rfl⟩ := rg_of (M := 30) (by omega) ⟨Int32.le_trans (by decide) q.1, q.2⟩
  have k1 : 1 ≤ k := (nI_leI (a := 1) (by omega) (by omega)).mp q.1
  suffices loop : ∀ r m, m + r = 120 → ∀ mem', FrT mem mem' → LeR mem' (lea (vLine (ctO o) N f k) 1 m) → ab_Go l G ol (d + 5) mX_bestLine (ab_mc mX_bestLine) (ab_ms mX_bestLine) (fun r sh rf mem nx _ _ => K r sh rf mem nx) 31 [.ref 0, .int (nI k), .int w, .int (nI (1 + m))] [] sh rf mem' nx 0 0 from loop 120 0 rfl _ (FrT.w (by omega)) (w_eq _ _ _ _)
  intro r
  induction r with
  | zero =>
    intro m hm mem' hF hL
    have : m = 120 := by omega
    subst this
    obtain ⟨p, ep⟩ := lea_some (vLine (ctO o) N f k) 1 120 (by decide)
    have hk := hK k k1 hk rfl q2 mem' hF
    rw [ep] at hL
    refine h_mX_bestLine_31 ⟨fun _ => ⟨fun c => ⟨i0, rd_of hS rfl rfl ⟨i61, trivial, ?_⟩⟩, fun c => ⟨i0, rd_of hS rfl rfl ⟨i61, trivial, ?_⟩⟩⟩, fun z => absurd (by decide) z⟩
    · rw [leA_1 ep c] at hk; rw [hL.2.2]; exact hk
    · rw [leA_0 ep c] at hk; rw [hL.2.1]; exact hk
  | succ r ih =>
    intro m hm mem' hF hL
    refine h_mX_bestLine_31 ⟨fun z => absurd z (nI_nlt (a := 120) (by omega) (by omega)), fun _ => ⟨i0, rd_of hS rfl rfl ⟨i0, rd_of hS rfl rfl ⟨i42, s_think (d := d + 3) hS hN (hR.T (Or.inl rfl) hN hF) (hT.T hF) fun mem1 F1 L1 R1 A1 T1 => ⟨rfl, i0, rd_of hS rfl rfl ⟨i42, i0, rd_of hS rfl rfl ⟨i42, ?_⟩⟩⟩⟩⟩⟩⟩
    refine s_go (d := d) (o := o) (f := upd f 3 (nI (1 + m))) hS w42 hN ?_ (R1.wput (Or.inl ⟨rfl, rfl⟩) _) (by rw [w_ne _ _ (Or.inr (by decide))]; exact A1) (hW.l3 (by omega) (by omega)) (by omega) fun mem2 F2 R2 => ⟨_, rfl, i0, rd_of hS rfl rfl ⟨i0, rd_of hS rfl rfl ⟨i42, s_pad hS w42 hN R2 ⟨_, rfl, i61, ?_⟩⟩⟩⟩
    · rw [w_ne _ _ (Or.inl (by decide))]; exact T1.mono fun a ha => ab_w_ne _ _ _ (by omega)
    · have F12 : FrT mem mem2 := (hF.trans F1).trans ((FrT.w (by omega)).trans (FrT.of F2))
      have L2 : LeR mem2 (lea (vLine (ctO o) N f k) 1 m) := by
        have e : mem2 61 = mem' 61 := by rw [F2.1 61 (by omega) (by decide), ab_w_ne _ _ _ (by decide), L1]
        unfold LeR at *
        rw [e]; exact hL
      refine s_offer hS (v := vLine (ctO o) N f k) (a := 1) (m := m) rfl rfl L2 fun mem3 F3 L3 => ⟨rfl, ?_⟩
      rw [nI_1]
      exact ih (m + 1) (by omega) mem3 (F12.trans fun a _ ha => F3 a (by omega)) L3
set_option maxHeartbeats 4000000 in
theorem x_bestLooks (hS : St sh rf nx) (hN : N ≤ 8) (hR : RW mem 4 N f) {D : Nat} (hW : Wf N D f) (hD : D ≤ 9999) {o : Option (Row × Nat)} (hT : LW sh rf nx mem (mem 6 0) o) {n p w : Int32} (hB : ¬ ((1 ≤ n ∧ n ≤ 60) ∧ (0 ≤ p ∧ p ≤ 999) ∧ (0 ≤ w ∧ w ≤ 1)) → K (some (.int (-1000000001))) sh rf mem nx) (hK : ∀ k, 1 ≤ k → k ≤ 60 → n = nI k → (0 ≤ p ∧ p ≤ 999) → (0 ≤ w ∧ w ≤ 1) → ∀ mem', FrT mem mem' → K (some (.int (leA (lea (vLook (ctO o) N f k p) 0 9) w))) sh rf mem' nx) : ab_Cx l G ol (d + 6) mX_bestLooks [.ref 0, .int n, .int p, .int w] sh rf mem nx K := by
  have i0 : ab_is sh nx 0 8 := is_of hS rfl rfl
  have i42 : ab_is sh nx 42 7 := is_of hS rfl rfl
  have i61 : ab_is sh nx 61 1 := is_of hS rfl rfl
  refine e_mX_bestLooks ⟨by decide, s_within ⟨_, rfl, br0 (fun q => ⟨by decide, s_within ⟨_, rfl, br0 (fun q3 => ⟨by decide, s_within ⟨_, rfl, br1 (fun q2 => ⟨i0, rd_of hS rfl rfl ⟨i61, s_lbegin hS ⟨rfl, ?_⟩⟩⟩) (fun q2 => ⟨trivial, hB fun z => q2 z.2.2⟩)⟩⟩) (fun q3 => ⟨trivial, hB fun z => q3 z.2.1⟩)⟩⟩) (fun q => ⟨trivial, hB fun z => q z.1⟩)⟩⟩
  obtain ⟨k, hk, rfl⟩ := rg_of (M := 60) (by omega) ⟨Int32.le_trans (by decide) q.1, q.2⟩
  have k1 : 1 ≤ k := (nI_leI (a := 1) (by omega) (by omega)).mp q.1
  suffices loop : ∀ r m, m + r = 9 → ∀ mem', FrT mem mem' → LeR mem' (lea (vLook (ctO o) N f k p) 0 m) → ab_Go l G ol (d + 5) mX_bestLooks (ab_mc mX_bestLooks) (ab_ms mX_bestLooks) (fun r sh rf mem nx _ _ => K r sh rf mem nx) 43 [.ref 0, .int (nI k), .int p, .int w, .int (nI m)] [] sh rf mem' nx 0 0 from loop 9 0 rfl _ (FrT.w (by omega)) (w_eq _ _ _ _)
  intro r
  induction r with
  | zero =>
    intro m hm mem' hF hL
    have : m = 9 := by omega
    subst this
    obtain ⟨p', ep⟩ := lea_some (vLook (ctO o) N f k p) 0 9 (by decide)
    have hk := hK k k1 hk rfl q3 q2 mem' hF
    rw [ep] at hL
    refine h_mX_bestLooks_43 ⟨fun _ => ⟨fun c => ⟨i0, rd_of hS rfl rfl ⟨i61, trivial, ?_⟩⟩, fun c => ⟨i0, rd_of hS rfl rfl ⟨i61, trivial, ?_⟩⟩⟩, fun z => absurd (by decide) z⟩
    · rw [leA_1 ep c] at hk; rw [hL.2.2]; exact hk
    · rw [leA_0 ep c] at hk; rw [hL.2.1]; exact hk
  | succ r ih =>
    intro m hm mem' hF hL
    refine h_mX_bestLooks_43 ⟨fun z => absurd z (nI_nlt (a := 8) (by omega) (by omega)), fun _ => ⟨i0, rd_of hS rfl rfl ⟨i0, rd_of hS rfl rfl ⟨i42, s_think (d := d + 3) hS hN (hR.T (Or.inl rfl) hN hF) (hT.T hF) fun mem1 F1 L1 R1 A1 T1 => ⟨rfl, i0, rd_of hS rfl rfl ⟨i42, i0, rd_of hS rfl rfl ⟨i42, ?_⟩⟩⟩⟩⟩⟩⟩
    refine s_go (d := d) (o := o) (f := upd f 4 (nI m)) hS w42 hN ?_ (R1.wput (Or.inr (Or.inl ⟨rfl, rfl⟩)) _) (by rw [w_ne _ _ (Or.inr (by decide))]; exact A1) (hW.l4 (by omega)) (by omega) fun mem2 F2 R2 => ⟨_, rfl, i0, rd_of hS rfl rfl ⟨i0, rd_of hS rfl rfl ⟨i42, s_pad hS w42 hN R2 ⟨_, rfl, i61, ?_⟩⟩⟩⟩
    · rw [w_ne _ _ (Or.inl (by decide))]; exact T1.mono fun a ha => ab_w_ne _ _ _ (by omega)
    · have F12 : FrT mem mem2 := (hF.trans F1).trans ((FrT.w (by omega)).trans (FrT.of F2))
      have L2 : LeR mem2 (lea (vLook (ctO o) N f k p) 0 m) := by
        have e : mem2 61 = mem' 61 := by rw [F2.1 61 (by omega) (by decide), ab_w_ne _ _ _ (by decide), L1]
        unfold LeR at *
        rw [e]; exact hL
      refine s_offer hS (v := vLook (ctO o) N f k p) (a := 0) (m := m) (by rw [Nat.zero_add]) (by rw [Nat.zero_add]; rfl) L2 fun mem3 F3 L3 => ⟨rfl, ?_⟩
      rw [nI_1]
      exact ih (m + 1) (by omega) mem3 (F12.trans fun a _ ha => F3 a (by omega)) L3
set_option maxHeartbeats 4000000 in
theorem x_without (hS : St sh rf nx) (hN : N ≤ 8) (hR : RW mem 4 N f) {D : Nat} (hW : Wf N D f) (hD : D ≤ 9999) {o : Option (Row × Nat)} (hT : LW sh rf nx mem (mem 6 0) o) {n w : Int32} (hB : ¬ ((1 ≤ n ∧ n ≤ 60) ∧ (0 ≤ w ∧ w ≤ 1)) → K (some (.int (-1000000001))) sh rf mem nx) (hZ : (1 ≤ n ∧ n ≤ 60) ∧ (0 ≤ w ∧ w ≤ 1) → N = 0 → K (some (.int (-1000000005))) sh rf mem nx) (hK : ∀ k, 1 ≤ k → k ≤ 60 → n = nI k → (0 ≤ w ∧ w ≤ 1) → 0 < N → ∀ mem', FrT mem mem' → K (some (.int (leA (lea (vOut (ctO o) N f k) 0 N) w))) sh rf mem' nx) : ab_Cx l G ol (d + 6) mX_without [.ref 0, .int n, .int w] sh rf mem nx K := by
  have i0 : ab_is sh nx 0 8 := is_of hS rfl rfl
  have i4 : ab_is sh nx 4 7 := is_of hS rfl rfl
  have i42 : ab_is sh nx 42 7 := is_of hS rfl rfl
  have i61 : ab_is sh nx 61 1 := is_of hS rfl rfl
  refine e_mX_without ⟨by decide, s_within ⟨_, rfl, br0 (fun q => ⟨by decide, s_within ⟨_, rfl, br1 (fun q2 => ⟨i0, rd_of hS rfl rfl ⟨i4, ?_⟩⟩) (fun q2 => ⟨trivial, hB fun z => q2 z.2⟩)⟩⟩) (fun q => ⟨trivial, hB fun z => q z.1⟩)⟩⟩
  rw [hR.1.2.1]
  refine ⟨fun z => ⟨i0, rd_of hS rfl rfl ⟨i61, s_lbegin hS ⟨rfl, ?_⟩⟩⟩, fun z => ⟨trivial, hZ ⟨q, q2⟩ ((nI_eq (b := 0) (by omega) (by omega)).mp z)⟩⟩
  have N0 : 0 < N := by
    rcases Nat.eq_zero_or_pos N with g | g
    · exact absurd (by rw [g]; rfl) z
    · exact g
  obtain ⟨k, hk, rfl⟩ := rg_of (M := 60) (by omega) ⟨Int32.le_trans (by decide) q.1, q.2⟩
  have k1 : 1 ≤ k := (nI_leI (a := 1) (by omega) (by omega)).mp q.1
  suffices loop : ∀ r m, m + r = N → ∀ mem', FrT mem mem' → LeR mem' (lea (vOut (ctO o) N f k) 0 m) → ab_Go l G ol (d + 5) mX_without (ab_mc mX_without) (ab_ms mX_without) (fun r sh rf mem nx _ _ => K r sh rf mem nx) 44 [.ref 0, .int (nI k), .int w, .int (nI m)] [] sh rf mem' nx 0 0 from loop N 0 (by omega) _ (FrT.w (by omega)) (w_eq _ _ _ _)
  intro r
  induction r with
  | zero =>
    intro m hm mem' hF hL
    have : m = N := by omega
    subst this
    obtain ⟨p, ep⟩ := lea_some (vOut (ctO o) m f k) 0 m N0
    have hk := hK k k1 hk rfl q2 N0 mem' hF
    rw [ep] at hL
    have R' := hR.T (Or.inl rfl) hN hF
    refine h_mX_without_44 ⟨i0, rd_of hS rfl rfl ⟨i4, ?_⟩⟩
    rw [R'.1.2.1]
    refine ⟨fun _ => ⟨fun c => ⟨i0, rd_of hS rfl rfl ⟨i61, trivial, ?_⟩⟩, fun c => ⟨i0, rd_of hS rfl rfl ⟨i61, trivial, ?_⟩⟩⟩, fun z => absurd (Int32.le_refl _) z⟩
    · rw [leA_1 ep c] at hk; rw [hL.2.2]; exact hk
    · rw [leA_0 ep c] at hk; rw [hL.2.1]; exact hk
  | succ r ih =>
    intro m hm mem' hF hL
    have R' := hR.T (Or.inl rfl) hN hF
    refine h_mX_without_44 ⟨i0, rd_of hS rfl rfl ⟨i4, ?_⟩⟩
    rw [R'.1.2.1]
    refine ⟨fun z => absurd z (nI_ge (by omega) (by omega)), fun _ => ⟨i0, rd_of hS rfl rfl ⟨i0, rd_of hS rfl rfl ⟨i42, s_think (d := d + 3) hS hN R' (hT.T hF) fun mem1 F1 L1 R1 A1 T1 => ⟨rfl, i0, rd_of hS rfl rfl ⟨i42, i0, rd_of hS rfl rfl ⟨i42, ?_⟩⟩⟩⟩⟩⟩⟩
    refine s_go (d := d) (o := o) (home := m) (f := f) hS w42 hN ?_ (R1.own10 _) (by rw [w_eq]; unfold absV; rw [if_pos (by omega)]) hW (by omega) fun mem2 F2 R2 => ⟨_, rfl, i0, rd_of hS rfl rfl ⟨i0, rd_of hS rfl rfl ⟨i42, s_pad hS w42 hN R2 ⟨_, rfl, i61, ?_⟩⟩⟩⟩
    · rw [w_ne _ _ (Or.inl (by decide))]; exact T1.mono fun a ha => ab_w_ne _ _ _ (by omega)
    · have F12 : FrT mem mem2 := (hF.trans F1).trans ((FrT.w (by omega)).trans (FrT.of F2))
      have L2 : LeR mem2 (lea (vOut (ctO o) N f k) 0 m) := by
        have e : mem2 61 = mem' 61 := by rw [F2.1 61 (by omega) (by decide), ab_w_ne _ _ _ (by decide), L1]
        unfold LeR at *
        rw [e]; exact hL
      refine s_offer hS (v := vOut (ctO o) N f k) (a := 0) (m := m) (by rw [Nat.zero_add]) (by rw [Nat.zero_add]; rfl) L2 fun mem3 F3 L3 => ⟨rfl, ?_⟩
      rw [nI_1]
      exact ih (m + 1) (by omega) mem3 (F12.trans fun a _ ha => F3 a (by omega)) L3
end XQ
