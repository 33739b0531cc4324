/-! PURE: what a text gives; and what the class keeps of it -/
/-- the reference's sign i (0 for -1 ..) in the class's words: | & < = > + - * / -/
def chS (i : Nat) : Int32 := [124, 38, 60, 61, 62, 43, 45, 42, 47].getD i 0
def enc (v : Int32) : Int32 := if v = -1 then 20124 else if v = -2 then 20038 else if v = -3 then 20060 else if v = -4 then 20061 else if v = -5 then 20062 else if v = -6 then 20043 else if v = -7 then 20045 else if v = -8 then 20042 else if v = -9 then 20047 else if v = -10 then 20033 else v
def two (v a b : Int32) : Int32 := if v = -1 then (if ¬ a = 0 ∨ ¬ b = 0 then 1 else 0) else if v = -2 then (if ¬ a = 0 ∧ ¬ b = 0 then 1 else 0) else if v = -3 then (if a < b then 1 else 0) else if v = -4 then (if a = b then 1 else 0) else if v = -5 then (if b < a then 1 else 0) else if v = -6 then a + b else if v = -7 then a - b else if v = -8 then a * b else (if b = 0 then 0 else a / b)
def sgR (i : Nat) : Int32 := [-1, -2, -3, -4, -5, -6, -7, -8, -9].getD i 0
/-- a code that may stand where t numbers wait -/
def okC (v : Int32) (t : Nat) : Prop := (∃ n, n < 10000 ∧ v = nI n) ∨ (∃ n, n < 3 ∧ v = nI (10000 + n)) ∨ (v = -10 ∧ 1 ≤ t) ∨ (∃ i, i < 9 ∧ v = sgR i ∧ 2 ≤ t)
def tp1 (v : Int32) (t : Nat) : Nat := if 0 ≤ v then t + 1 else if v = -10 then t else t - 1
def tpC (c : Row) : Nat → Nat
  | 0 => 0
  | n + 1 => tp1 (c n) (tpC c n)
def wfC (c : Row) : Nat → Prop
  | 0 => True
  | n + 1 => wfC c n ∧ okC (c n) (tpC c n)
def fct (a b c v : Int32) : Int32 := if v < 10000 then v else if v = 10000 then a else if v = 10001 then b else c
def wo1 (a b c v : Int32) (t : Nat) (s : Row) : Row := if 0 ≤ v then upd s t (fct a b c v) else if v = -10 then upd s (t - 1) (if s (t - 1) = 0 then 1 else 0) else upd s (t - 2) (two v (s (t - 2)) (s (t - 1)))
def woS (a b c : Int32) (cd : Row) : Nat → Row
  | 0 => fun _ => 0
  | n + 1 => wo1 a b c (cd n) (tpC cd n) (woS a b c cd n)
def woF (cd : Row) (n : Nat) (a b c : Int32) : Int32 := woS a b c cd n 0
theorem tpC_le (c : Row) : ∀ n, tpC c n ≤ n
  | 0 => Nat.le_refl _
  | n + 1 => by
    have := tpC_le c n
    rw [tpC, tp1]
    split
    · omega
    · split <;> omega
theorem i32_lit_n {n : Nat} (h : n < 10000) : (0 : Int32) ≤ nI n ∧ nI n < 10000 ∧ nI n < 20000 := by
  refine ⟨?_, ?_, ?_⟩
  · exact Int32.not_lt.mp (nI_pos (by omega))
  · exact nI_lt (b := 10000) h (by omega)
  · exact nI_lt (b := 20000) (by omega) (by omega)
theorem enc_pos {v : Int32} (h : 0 ≤ v) : enc v = v := by
  have : ∀ k : Int32, k < 0 → ¬ v = k := fun k hk e => absurd hk (Int32.not_lt.mpr (e ▸ h))
  unfold enc
  rw [if_neg (this _ (by decide)), if_neg (this _ (by decide)), if_neg (this _ (by decide)), if_neg (this _ (by decide)), if_neg (this _ (by decide)), if_neg (this _ (by decide)), if_neg (this _ (by decide)), if_neg (this _ (by decide)), if_neg (this _ (by decide)), if_neg (this _ (by decide))]
section XG
variable {l : Launch} {G : ab_G} {ol : ab_Ol} {d : Nat} {sh : ab_S} {rf : ab_R} {nx : Nat} {K : ab_K} {mem : ab_N}
set_option maxHeartbeats 4000000 in
theorem s_joined {i : Nat} (hi : i < 9) {a b : Int32} (h : K (some (.int (two (sgR i) a b))) sh rf mem nx) : ab_Cx l G ol (d + 1) mLa_joined [.int (enc (sgR i) - 20000), .int a, .int b] sh rf mem nx K := by
  have e : enc (sgR i) - 20000 = chS i := by
    have : ∀ i, i < 9 → enc (sgR i) - 20000 = chS i := by decide +kernel
    exact this i hi
  rw [e]
  refine e_mLa_joined ?_
  have leaf : ∀ x, x = two (sgR i) a b → True ∧ K (some (.int x)) sh rf mem nx := fun x q => ⟨trivial, q ▸ h⟩
  clear h e
  unfold v_mLa_joined
  match i, hi with
  | 0, _ =>
    rw [show chS _ = (124 : Int32) from rfl]
    repeat' first
      | refine leaf _ ?_
      | (intro q; exact absurd q (by decide))
      | refine And.intro ?_ ?_
      | assumption
      | intro _
    all_goals first | assumption | (simp [two, sgR, *]; done) | (simp_all [two, sgR]; done)
  | 1, _ =>
    rw [show chS _ = (38 : Int32) from rfl]
    repeat' first
      | refine leaf _ ?_
      | (intro q; exact absurd q (by decide))
      | refine And.intro ?_ ?_
      | assumption
      | intro _
    all_goals first | assumption | (simp [two, sgR, *]; done) | (simp_all [two, sgR]; done)
  | 2, _ =>
    rw [show chS _ = (60 : Int32) from rfl]
    repeat' first
      | refine leaf _ ?_
      | (intro q; exact absurd q (by decide))
      | refine And.intro ?_ ?_
      | assumption
      | intro _
    all_goals first | assumption | (simp [two, sgR, *]; done) | (simp_all [two, sgR]; done)
  | 3, _ =>
    rw [show chS _ = (61 : Int32) from rfl]
    repeat' first
      | refine leaf _ ?_
      | (intro q; exact absurd q (by decide))
      | refine And.intro ?_ ?_
      | assumption
      | intro _
    all_goals first | assumption | (simp [two, sgR, *]; done) | (simp_all [two, sgR]; done)
  | 4, _ =>
    rw [show chS _ = (62 : Int32) from rfl]
    repeat' first
      | refine leaf _ ?_
      | (intro q; exact absurd q (by decide))
      | refine And.intro ?_ ?_
      | assumption
      | intro _
    all_goals first | assumption | (simp [two, sgR, *]; done) | (simp_all [two, sgR]; done)
  | 5, _ =>
    rw [show chS _ = (43 : Int32) from rfl]
    repeat' first
      | refine leaf _ ?_
      | (intro q; exact absurd q (by decide))
      | refine And.intro ?_ ?_
      | assumption
      | intro _
    all_goals first | assumption | (simp [two, sgR, *]; done) | (simp_all [two, sgR]; done)
  | 6, _ =>
    rw [show chS _ = (45 : Int32) from rfl]
    repeat' first
      | refine leaf _ ?_
      | (intro q; exact absurd q (by decide))
      | refine And.intro ?_ ?_
      | assumption
      | intro _
    all_goals first | assumption | (simp [two, sgR, *]; done) | (simp_all [two, sgR]; done)
  | 7, _ =>
    rw [show chS _ = (42 : Int32) from rfl]
    repeat' first
      | refine leaf _ ?_
      | (intro q; exact absurd q (by decide))
      | refine And.intro ?_ ?_
      | assumption
      | intro _
    all_goals first | assumption | (simp [two, sgR, *]; done) | (simp_all [two, sgR]; done)
  | 8, _ =>
    rw [show chS _ = (47 : Int32) from rfl]
    repeat' first
      | refine leaf _ ?_
      | (intro q; exact absurd q (by decide))
      | refine And.intro ?_ ?_
      | assumption
      | intro _
    all_goals first | assumption | (simp [two, sgR, *]; done) | (simp_all [two, sgR]; done)
/-- text number j of the class has the code cd, n long (in the reference's words) -/
def LWt (sh : ab_S) (rf : ab_R) (mem : ab_N) (nx j : Nat) (cd : Row) (n : Nat) : Prop := ∃ b cb, rf 2 j = some b ∧ 126 ≤ b ∧ ab_is sh nx b 5 ∧ rf b 2 = some cb ∧ 126 ≤ cb ∧ ab_is sh nx cb 10 ∧ (sh cb).2 = n ∧ n ≤ 96 ∧ (∀ k, k < n → mem cb k = enc (cd k)) ∧ wfC cd n ∧ 1 ≤ tpC cd n
def LW (sh : ab_S) (rf : ab_R) (nx : Nat) (mem : ab_N) (v : Int32) (o : Option (Row × Nat)) : Prop := match o with
  | none => ¬ (0 ≤ v ∧ v ≤ 13)
  | some q => ∃ j, j < 14 ∧ v = nI j ∧ LWt sh rf mem nx j q.1 q.2
def lwV (o : Option (Row × Nat)) (a b c e : Int32) : Int32 := match o with
  | none => e
  | some q => woF q.1 q.2 a b c
theorem nI_lits : (2 : Int32) = nI 2 ∧ (1 : Int32) = nI 1 ∧ (96 : Int32) = nI 96 ∧ (10000 : Int32) = nI 10000 := ⟨rfl, rfl, rfl, rfl⟩
theorem nI_subk {a k : Nat} (h : k ≤ a) : nI a - nI k = nI (a - k) := by
  have : a = (a - k) + k := by omega
  rw [this, ← nI_add, Int32.add_sub_cancel]
  congr 1
  omega
theorem nI_m1 {a : Nat} (h : 1 ≤ a) : nI a + (-1 : Int32) = nI (a - 1) := by
  rw [← nI_subk h, Int32.sub_eq_add_neg]
  congr 1
theorem wfC_at {cd : Row} : ∀ {n m : Nat}, wfC cd n → m < n → okC (cd m) (tpC cd m)
  | 0, _, _, hm => by omega
  | n + 1, m, hw, hm => by
    rcases Nat.lt_or_ge m n with q | q
    · exact wfC_at hw.1 q
    · have : m = n := by omega
      subst this; exact hw.2
set_option maxHeartbeats 8000000 in
theorem s_gives (hS : St sh rf nx) {v a b c e : Int32} {o : Option (Row × Nat)} (hL : LW sh rf nx mem v o) (h : ∀ mem' : ab_N, (∀ q, q ≠ 3 → mem' q = mem q) → K (some (.int (lwV o a b c e))) sh rf mem' nx) : ab_Cx l G ol (d + 2) mLa_gives [.ref 1, .int v, .int a, .int b, .int c, .int e] sh rf mem nx K := by
  refine e_mLa_gives ⟨by decide, s_within ⟨_, rfl, fun q => ⟨trivial, ?_⟩, fun q => ?_⟩⟩
  · cases o with
    | none => exact h mem (fun _ _ => rfl)
    | some o =>
      obtain ⟨j, hj, rfl, _⟩ := hL
      rw [if_pos ⟨Int32.not_lt.mp (nI_pos (by omega)), (nI_le (a := j) (b := 13) (by omega) (by omega) : nI j ≤ nI 13)⟩] at q
      exact absurd q (by decide)
  · cases o with
    | none => exact absurd (if_neg hL) q
    | some o =>
      obtain ⟨cd, n⟩ := o
      obtain ⟨j, hj, rfl, tb, cb, h1, h2, h3, h4, h5, h6, h7, h8, h9, h10, h11⟩ := hL
      simp only at h7 h8 h9 h10 h11
      have cl : Int32.toNatClampNeg (nI j) = j := nI_clamp (by omega)
      have i1 : ab_is sh nx 1 0 := is_of hS rfl rfl
      have i2 : ab_is sh nx 2 25 := is_of hS rfl rfl
      have i3 : ab_is sh nx 3 10 := is_of hS rfl rfl
      have hr : ∀ {P : Nat → Prop}, P tb → ab_rd (rf 2 (Int32.toNatClampNeg (nI j))) P := fun hp => ⟨tb, by rw [cl]; exact h1, hp⟩
      refine ⟨i1, rd_of hS rfl rfl ⟨i2, in_of hS rfl rfl (vp_in_nI hj (by decide)), hr ⟨i1, rd_of hS rfl rfl ⟨i2, in_of hS rfl rfl (vp_in_nI hj (by decide)), hr ⟨h3, cb, h4, ?_⟩⟩⟩⟩⟩
      suffices loop : ∀ r k, k + r = n → ∀ mem' : ab_N, (∀ q, q ≠ 3 → mem' q = mem q) → (∀ i, i < tpC cd k → mem' 3 i = woS a b c cd k i) → ∀ u, ab_Go l G ol (d + 1) mLa_gives (ab_mc mLa_gives) (ab_ms mLa_gives) (fun r sh rf mem nx _ _ => K r sh rf mem nx) 39 [.ref 1, .int (nI j), .int a, .int b, .int c, .int e, .ref cb, .int (nI (tpC cd k)), .int (nI k), u] [] sh rf mem' nx 0 0 from loop n 0 (by omega) mem (fun _ _ => rfl) (fun i q => by rw [tpC] at q; omega) _
      intro r
      induction r with
      | zero =>
        intro k hk mem' hF hA u
        have : k = n := by omega
        subst this
        refine h_mLa_gives_39 ⟨h6, fun _ => ⟨i1, rd_of hS rfl rfl ⟨i3, in_of hS rfl rfl (pk_in 0 96 (by decide)), trivial, ?_⟩⟩, fun q => absurd (by rw [h7]; exact Int32.le_refl _) q⟩
        have := hA 0 (by omega)
        rw [show Int32.toNatClampNeg (0 : Int32) = 0 by decide, this]
        exact h mem' hF
      | succ r ih =>
        intro k hk mem' hF hA u
        have hkn : k < n := by omega
        have htk := tpC_le cd k
        have ck : Int32.toNatClampNeg (nI k) = k := nI_clamp (by omega)
        have ee : mem' cb (Int32.toNatClampNeg (nI k)) = enc (cd k) := by rw [ck, hF cb (by omega)]; exact h9 k hkn
        have okk := wfC_at h10 hkn
        have n1 : ¬ (Int32.ofNat (sh cb).2) ≤ nI k := by rw [h7]; exact nI_ge hkn (by omega)
        have n2 : ¬ (96 : Int32) ≤ nI k := nI_ge (b := 96) (by omega) (by omega)
        have vk : vp_in (nI k) (sh cb).2 := by rw [h7]; exact vp_in_nI hkn (by omega)
        have key : ∀ (mem2 : ab_N) (t2 : Int32), (∀ q, q ≠ 3 → mem2 q = mem' q) → t2 = nI (tpC cd (k + 1)) → (∀ i, i < tpC cd (k + 1) → mem2 3 i = wo1 a b c (cd k) (tpC cd k) (woS a b c cd k) i) → ∀ u, ab_Go l G ol (d + 1) mLa_gives (ab_mc mLa_gives) (ab_ms mLa_gives) (fun r sh rf mem nx _ _ => K r sh rf mem nx) 39 [.ref 1, .int (nI j), .int a, .int b, .int c, .int e, .ref cb, .int t2, .int (nI k + 1), u] [] sh rf mem2 nx 0 0 := by
          rintro mem2 _ q1 rfl q3 u
          rw [nI_1]
          exact ih (k + 1) (by omega) mem2 (fun q hq => (q1 q hq).trans (hF q hq)) q3 u
        have vt : ∀ t, t < 96 → vp_in (nI t) (sh 3).2 := fun t ht => in_of hS rfl rfl (vp_in_nI ht (by decide))
        have ct : ∀ t, t < 200 → Int32.toNatClampNeg (nI t) = t := fun t ht => nI_clamp (by omega)
        refine h_mLa_gives_39 ?_
        unfold v_mLa_gives_39
        rw [ee]
        refine ⟨h6, fun q => absurd q n1, fun _ => ⟨fun q => absurd q n2, fun _ => ⟨h6, vk, ?_⟩⟩⟩
        have push : ∀ x, 0 ≤ cd k → x = fct a b c (cd k) → ∀ u, ab_Go l G ol (d + 1) mLa_gives (ab_mc mLa_gives) (ab_ms mLa_gives) (fun r sh rf mem nx _ _ => K r sh rf mem nx) 39 [.ref 1, .int (nI j), .int a, .int b, .int c, .int e, .ref cb, .int (nI (tpC cd k) + 1), .int (nI k + 1), u] [] sh rf (ab_w mem' 3 (Int32.toNatClampNeg (nI (tpC cd k))) x) nx 0 0 := by
          intro x h0 hx u
          rw [ct _ (by omega)]
          refine key _ _ (fun q hq => ab_w_ne _ _ _ hq) (by rw [nI_1, tpC, tp1, if_pos h0]) (fun i hi => ?_) u
          rw [tpC, tp1, if_pos h0] at hi
          rw [wo1, if_pos h0, hx, ab_w_self]
          by_cases hit : i = tpC cd k
          · subst hit; simp [upd]
          · simp only [upd, if_neg hit]; exact hA i (by omega)
        rcases okk with ⟨m, hm, em⟩ | ⟨m, hm, em⟩ | ⟨em, ht⟩ | ⟨m, hm, em, ht⟩
        · obtain ⟨g0, g1, g2⟩ := i32_lit_n hm
          rw [← em] at g0 g1 g2
          rw [enc_pos g0]
          refine ⟨fun _ => ⟨fun _ => ⟨fun _ => ⟨i1, rd_of hS rfl rfl ⟨i3, vt _ (by omega), push _ g0 (by rw [fct, if_pos g1]) _⟩⟩, fun q => absurd g1 q⟩, fun q => absurd g2 q⟩, fun q => absurd g2 (by rw [q]; decide)⟩
        · have g : ∀ m, m < 3 → (0 : Int32) ≤ nI (10000 + m) ∧ ¬ nI (10000 + m) < (10000 : Int32) ∧ nI (10000 + m) < (20000 : Int32) ∧ (m = 0 ↔ nI (10000 + m) = 10000) ∧ (m = 1 ↔ nI (10000 + m) = 10001) := by decide +kernel
          obtain ⟨g0, g1, g2, g3, g4⟩ := g m hm
          rw [← em] at g0 g1 g2 g3 g4
          rw [enc_pos g0]
          refine ⟨fun _ => ⟨fun _ => ⟨fun q => absurd q g1, fun _ => ⟨i1, rd_of hS rfl rfl ⟨fun q1 => ⟨fun q2 => ⟨i3, vt _ (by omega), push _ g0 (by rw [fct, if_neg g1, if_neg q1, if_neg q2]) _⟩, fun q2 => ⟨i3, vt _ (by omega), push _ g0 (by rw [fct, if_neg g1, if_neg q1, if_pos q2]) _⟩⟩, fun q1 => ⟨i3, vt _ (by omega), push _ g0 (by rw [fct, if_neg g1, if_pos q1]) _⟩⟩⟩⟩, fun q => absurd g2 q⟩, fun q => absurd g2 (by rw [q]; decide)⟩
        · have hneg : ¬ (0 : Int32) ≤ cd k := by rw [em]; decide
          have htp : tpC cd (k + 1) = tpC cd k := by rw [tpC, tp1, if_neg hneg, if_pos em]
          rw [em, show enc (-10) = 20033 by decide]
          have lt1 : ¬ nI (tpC cd k) < (1 : Int32) := nI_nlt (b := 1) (by omega) (by omega)
          refine ⟨fun q => absurd rfl q, fun _ => ⟨fun q => absurd q lt1, fun _ => ?_⟩⟩
          have e1 : nI (tpC cd k) - 1 = nI (tpC cd k - 1) := nI_subk (k := 1) ht
          rw [e1, ct _ (by omega)]
          have a1 := hA (tpC cd k - 1) (by omega)
          have fin : ∀ x, x = (if woS a b c cd k (tpC cd k - 1) = 0 then 1 else 0) → ∀ u, ab_Go l G ol (d + 1) mLa_gives (ab_mc mLa_gives) (ab_ms mLa_gives) (fun r sh rf mem nx _ _ => K r sh rf mem nx) 39 [.ref 1, .int (nI j), .int a, .int b, .int c, .int e, .ref cb, .int (nI (tpC cd k)), .int (nI k + 1), u] [] sh rf (ab_w mem' 3 (tpC cd k - 1) x) nx 0 0 := by
            intro x hx u
            refine key _ _ (fun q hq => ab_w_ne _ _ _ hq) (by rw [htp]) (fun i hi => ?_) u
            rw [htp] at hi
            rw [wo1, if_neg hneg, if_pos em, ← hx, ab_w_self]
            by_cases hit : i = tpC cd k - 1
            · subst hit; simp [upd]
            · simp only [upd, if_neg hit]; exact hA i hi
          refine ⟨i1, rd_of hS rfl rfl ⟨i1, rd_of hS rfl rfl ⟨i3, vt _ (by omega), ?_⟩⟩⟩
          rw [a1]
          exact ⟨fun q => ⟨i3, vt _ (by omega), fin _ (by rw [if_neg q]) _⟩, fun q => ⟨i3, vt _ (by omega), fin _ (by rw [if_pos q]) _⟩⟩
        · have hneg : ¬ (0 : Int32) ≤ cd k := by
            rw [em]
            have : ∀ m, m < 9 → ¬ (0 : Int32) ≤ sgR m := by decide +kernel
            exact this m hm
          have hn10 : ¬ cd k = -10 := by
            rw [em]
            have : ∀ m, m < 9 → ¬ sgR m = -10 := by decide +kernel
            exact this m hm
          have htp : tpC cd (k + 1) = tpC cd k - 1 := by rw [tpC, tp1, if_neg hneg, if_neg hn10]
          have ge : ¬ enc (cd k) < 20000 ∧ ¬ enc (cd k) = 20033 := by
            rw [em]
            have : ∀ m, m < 9 → ¬ enc (sgR m) < 20000 ∧ ¬ enc (sgR m) = 20033 := by decide +kernel
            exact this m hm
          have lt2 : ¬ nI (tpC cd k) < (2 : Int32) := nI_nlt (b := 2) (by omega) (by omega)
          have e1 : nI (tpC cd k) - 1 = nI (tpC cd k - 1) := nI_subk (k := 1) (by omega)
          have e2 : nI (tpC cd k) - 2 = nI (tpC cd k - 2) := nI_subk (k := 2) ht
          rw [e1, e2, nI_m1 (by omega)]
          have a1 := hA (tpC cd k - 1) (by omega)
          have a2 := hA (tpC cd k - 2) (by omega)
          refine ⟨fun _ => ⟨fun q => absurd q ge.1, fun _ => ⟨fun q => absurd q lt2, fun _ => ⟨i1, rd_of hS rfl rfl ⟨i1, rd_of hS rfl rfl ⟨i3, vt _ (by omega), i1, rd_of hS rfl rfl ⟨i3, vt _ (by omega), by decide, ?_⟩⟩⟩⟩⟩⟩, fun q => absurd q ge.2⟩
          rw [ct (tpC cd k - 1) (by omega), ct (tpC cd k - 2) (by omega), a1, a2, em]
          refine s_joined hm ⟨_, rfl, i3, vt _ (by omega), ?_⟩
          refine key _ _ (fun q hq => ab_w_ne _ _ _ hq) (by rw [htp]) (fun i hi => ?_) _
          rw [htp] at hi
          rw [wo1, if_neg hneg, if_neg hn10, ab_w_self, em]
          by_cases hit : i = tpC cd k - 2
          · subst hit; simp [upd]
          · simp only [upd, if_neg hit]; exact hA i (by omega)
/-- World.costOf by a law -/
def clp (v : Int32) : Int32 := if 0 < (if v < 999 then v else 999) then (if v < 999 then v else 999) else 0
def ctO (o : Option (Row × Nat)) : Ct := fun need x day => clp (lwV o need x day (need + x))
theorem s_costOf (hS : St sh rf nx) {w t : Nat} (hw : Wd w) (ht : Td t) {x : Int32} {o : Option (Row × Nat)} (hL : LW sh rf nx mem (mem (w + 2) 0) o) (h : ∀ mem' : ab_N, (∀ q, q ≠ 3 → mem' q = mem q) → K (some (.int (ctO o (mem t 1) x (mem w 6)))) sh rf mem' nx) : ab_Cx l G ol (d + 3) mWo_costOf [.ref w, .ref t, .int x] sh rf mem nx K := by
  have iw := wd_is hS hw
  have it := td_is hS ht
  refine e_mWo_costOf ⟨iw, wd_rd0 hS hw ⟨iw, wd_rd9 hS hw ⟨wd_is2 hS hw, wd_in2 hS hw (pk_in 0 3 (by decide)), it, iw, it, is_of hS rfl rfl, ?_⟩⟩⟩
  refine s_gives (d := d) hS (o := o) hL fun mem' hF => ⟨_, rfl, by decide, s_held ⟨_, rfl, trivial, ?_⟩⟩
  exact h mem' hF
theorem LWt.mono {mem' : ab_N} {j n : Nat} {cd : Row} (h : LWt sh rf mem nx j cd n) (hF : ∀ a, 126 ≤ a → mem' a = mem a) : LWt sh rf mem' nx j cd n := by
  obtain ⟨b, cb, h1, h2, h3, h4, h5, h6, h7, h8, h9, h10, h11⟩ := h
  exact ⟨b, cb, h1, h2, h3, h4, h5, h6, h7, h8, fun k hk => by rw [hF cb h5]; exact h9 k hk, h10, h11⟩
theorem LW.mono {mem' : ab_N} {v : Int32} {o : Option (Row × Nat)} (h : LW sh rf nx mem v o) (hF : ∀ a, 126 ≤ a → mem' a = mem a) : LW sh rf nx mem' v o := by
  cases o with
  | none => exact h
  | some o =>
    obtain ⟨j, hj, e, hl⟩ := h
    exact ⟨j, hj, e, hl.mono hF⟩
/-- the cost law of world w -/
def TIw (sh : ab_S) (rf : ab_R) (nx w : Nat) (o : Option (Row × Nat)) : ab_N → Prop := fun mem => LW sh rf nx mem (mem (w + 2) 0) o
theorem costOK (hS : St sh rf nx) {w : Nat} (hw : Wd w) (o : Option (Row × Nat)) : CostOK l G ol sh rf nx w (TIw sh rf nx w o) (ctO o) := by
  refine ⟨fun d mem t x K hT ht h => s_costOf hS hw ht hT h, fun mem mem' hF hT => ?_⟩
  have hl := wd_lt hw
  unfold TIw at *
  rw [hF.2.1]
  exact hT.mono fun a ha => hF.1 a (by omega) (by omega)
end XG
