/-! CLASS: the reader's small methods -/
def RS (mem : ab_N) (tp : Row) (L s : Nat) : Prop := mem 63 5 = nI s ∧ mem 63 6 = nI (en tp L s) ∧ mem 63 7 = nI (srt tp L s)
theorem ixe_iff {i j : Nat} (hi : i < 2 ^ 31) (hj : j < 2 ^ 31) : nI i = nI j ↔ i = j := nI_eq hi hj
section RL
variable {l : Launch} {G : ab_G} {ol : ab_Ol} {d : Nat} {sh : ab_S} {rf : ab_R} {mem : ab_N} {nx : Nat} {K : ab_K}
theorem r_is (hS : St sh rf nx) : ab_is sh nx 63 2 := is_of hS rfl rfl
theorem r_tp (hS : St sh rf nx) {k : Nat} (hk : k < 96) {C : Nat → Prop} (h : C 62) : ab_rd (rf 63 0) fun b => ab_is sh nx b 10 ∧ vp_in (nI k) (sh b).2 ∧ C b := rd_of hS rfl rfl ⟨is_of hS rfl rfl, in_of hS rfl rfl (vp_in_nI hk (by decide)), h⟩
theorem r_sortAt (hS : St sh rf nx) {L k : Nat} (hL : L ≤ 96) (hk : k ≤ 96) (h4 : mem 63 4 = nI L) (h : K (some (.int (nI (srt (mem 62) L k)))) sh rf mem nx) : ab_Cx l G ol (d + 1) mRe_sortAt [.ref 63, .int (nI k)] sh rf mem nx K := by
  refine e_mRe_sortAt ⟨r_is hS, fun q => ⟨r_is hS, ?_⟩, fun q => ⟨trivial, ?_⟩⟩
  · rw [h4] at q
    have g : k < L := (nI_ltI (by omega) (by omega)).mp q
    refine r_tp hS (by omega) ?_
    rw [cl_nI (by omega)]
    unfold srt at h
    rw [if_neg (by omega)] at h
    have low : (mem 62 k < 97 ∨ 122 < mem 62 k) → (if 97 ≤ mem 62 k ∧ mem 62 k ≤ 122 then 1 else if 48 ≤ mem 62 k ∧ mem 62 k ≤ 57 then 2 else 3) = if 48 ≤ mem 62 k ∧ mem 62 k ≤ 57 then 2 else 3 := fun z => if_neg fun w => by
      rcases z with z | z
      · exact absurd z (Int32.not_lt.mpr w.1)
      · exact absurd z (Int32.not_lt.mpr w.2)
    have three : (mem 62 k < 97 ∨ 122 < mem 62 k) → (mem 62 k < 48 ∨ 57 < mem 62 k) → K (some (.int 3)) sh rf mem nx := fun z1 z2 => by
      rw [low z1, if_neg (fun w => by
        rcases z2 with z | z
        · exact absurd z (Int32.not_lt.mpr w.1)
        · exact absurd z (Int32.not_lt.mpr w.2))] at h
      exact h
    have two : (mem 62 k < 97 ∨ 122 < mem 62 k) → ¬ mem 62 k < 48 → ¬ 57 < mem 62 k → K (some (.int 2)) sh rf mem nx := fun z1 z2 z3 => by
      rw [low z1, if_pos ⟨Int32.not_lt.mp z2, Int32.not_lt.mp z3⟩] at h
      exact h
    refine ⟨fun a => ⟨fun b => ⟨trivial, three (Or.inl a) (Or.inl b)⟩, fun b => ⟨fun c => ⟨trivial, three (Or.inl a) (Or.inr c)⟩, fun c => ⟨trivial, two (Or.inl a) b c⟩⟩⟩, fun a => ⟨fun b => ⟨fun c => ⟨trivial, three (Or.inr b) (Or.inl c)⟩, fun c => ⟨fun e => ⟨trivial, three (Or.inr b) (Or.inr e)⟩, fun e => ⟨trivial, two (Or.inr b) c e⟩⟩⟩, fun b => ⟨trivial, ?_⟩⟩⟩
    rw [if_pos ⟨Int32.not_lt.mp a, Int32.not_lt.mp b⟩] at h
    exact h
  · rw [h4] at q
    have g : L ≤ k := by
      rcases Nat.lt_or_ge k L with z | z
      · exact absurd (nI_lt z (by omega)) q
      · exact z
    rw [srt_ge g] at h
    exact h
theorem r_step (hS : St sh rf nx) {L k : Nat} (hL : L ≤ 96) (hk : k ≤ L) (h4 : mem 63 4 = nI L) (h6 : mem 63 6 = nI k) (h : ∀ mem', (∀ a, a ≠ 63 → mem' a = mem a) → (∀ j, j ≠ 5 → j ≠ 6 → j ≠ 7 → mem' 63 j = mem 63 j) → RS mem' (mem 62) L (skb (mem 62) L k) → K none sh rf mem' nx) : ab_Cx l G ol (d + 2) mRe_step [.ref 63] sh rf mem nx K := by
  have i := r_is hS
  -- the end of a word
  have word : ∀ n s e mem1, L - e = n → s ≤ e → e ≤ L → srt (mem 62) L s ≠ 0 → srt (mem 62) L s ≠ 3 → s = skb (mem 62) L k → wen (mem 62) L (srt (mem 62) L s) e = en (mem 62) L s → (∀ a, a ≠ 63 → mem1 a = mem a) → (∀ j, j ≠ 5 → j ≠ 6 → j ≠ 7 → mem1 63 j = mem 63 j) → mem1 63 5 = nI s → mem1 63 6 = nI e → mem1 63 7 = nI (srt (mem 62) L s) → ab_Go l G ol (d + 1) mRe_step (ab_mc mRe_step) (ab_ms mRe_step) (fun r sh rf mem nx _ _ => K r sh rf mem nx) 94 [.ref 63] [] sh rf mem1 nx 0 0 := by
    intro n
    induction n with
    | zero =>
      intro s e mem1 hn hse heL s0 s3 es hw F1 F2 m5 m6 m7
      have ee : e = L := by omega
      subst ee
      rw [wen_L (Nat.le_refl _)] at hw
      exact h_mRe_step_94 ⟨i, i, fun _ => h mem1 F1 F2 (by subst es; exact ⟨m5, by rw [← hw]; exact m6, m7⟩), fun q => absurd (by rw [F2 4 (by decide) (by decide) (by decide), h4, m6]; exact Int32.le_refl _) q⟩
    | succ n ih =>
      intro s e mem1 hn hse heL s0 s3 es hw F1 F2 m5 m6 m7
      have m4 : mem1 63 4 = nI L := (F2 4 (by decide) (by decide) (by decide)).trans h4
      have m62 := F1 62 (by decide)
      refine h_mRe_step_94 ⟨i, i, fun q => absurd q (by rw [m4, m6]; exact nI_ge (by omega) (by omega)), fun _ => ⟨i, i, ?_⟩⟩
      rw [m6]
      refine r_sortAt hS hL (by omega) m4 ⟨_, rfl, i, fun q => ?_, fun q => ⟨i, i, ?_⟩⟩
      · rw [m62, m7, ixe_iff (Nat.lt_of_le_of_lt (srt_le _) (by decide)) (Nat.lt_of_le_of_lt (srt_le _) (by decide))] at q
        rw [wen_e q] at hw
        exact h mem1 F1 F2 (by subst es; exact ⟨m5, by rw [← hw]; exact m6, m7⟩)
      · rw [m62, m7, ixe_iff (Nat.lt_of_le_of_lt (srt_le _) (by decide)) (Nat.lt_of_le_of_lt (srt_le _) (by decide))] at q
        rw [wen_s (by omega) q] at hw
        refine ih s (e + 1) _ (by omega) (by omega) (by omega) s0 s3 es hw (fun a ha => by rw [ab_w_ne _ _ _ ha]; exact F1 a ha) (fun j a b c => by rw [w_ne _ _ (Or.inr b)]; exact F2 j a b c) (by rw [w_ne _ _ (Or.inr (by decide))]; exact m5) (by rw [w_eq, m6, nI_1]) (by rw [w_ne _ _ (Or.inr (by decide))]; exact m7)
  -- behind the blanks
  have tail : ∀ s mem1, s = skb (mem 62) L k → s ≤ L → (∀ a, a ≠ 63 → mem1 a = mem a) → (∀ j, j ≠ 5 → mem1 63 j = mem 63 j) → mem1 63 5 = nI s → ab_Cx l G ol (d + 1) mRe_sortAt [.ref 63, .int ((ab_w mem1 63 6 (mem1 63 5)) 63 5)] sh rf (ab_w mem1 63 6 (mem1 63 5)) nx (fun r2 sh2 rf2 mem2 nx2 => ∃ x2, r2 = some (.int x2) ∧ (ab_is sh2 nx2 63 2 ∧ (let mem3 := ab_w mem2 63 7 x2; ab_is sh2 nx2 63 2 ∧ ((¬ (mem3 63 7) = (3 : Int32) → ab_is sh2 nx2 63 2 ∧ (((mem3 63 7) = (0 : Int32) → K none sh2 rf2 mem3 nx2) ∧ (¬ (mem3 63 7) = (0 : Int32) → ab_Go l G ol (d + 1) mRe_step (ab_mc mRe_step) (ab_ms mRe_step) (fun r sh rf mem nx _ _ => K r sh rf mem nx) 94 [.ref 63] [] sh2 rf2 mem3 nx2 0 0))) ∧ ((mem3 63 7) = (3 : Int32) → ab_is sh2 nx2 63 2 ∧ (ab_is sh2 nx2 63 2 ∧ (let mem4 := ab_w mem3 63 6 ((mem3 63 5) + (1 : Int32)); K none sh2 rf2 mem4 nx2))))))) := by
    intro s mem1 es hs F1 F2 m5
    have e5 : (ab_w mem1 63 6 (mem1 63 5)) 63 5 = nI s := by rw [w_ne _ _ (Or.inr (by decide))]; exact m5
    have e62 : (ab_w mem1 63 6 (mem1 63 5)) 62 = mem 62 := by rw [ab_w_ne _ _ _ (by decide)]; exact F1 62 (by decide)
    rw [e5]
    refine r_sortAt hS hL (by omega) (by rw [w_ne _ _ (Or.inr (by decide)), F2 4 (by decide)]; exact h4) ⟨_, rfl, i, i, ?_⟩
    rw [e62, w_eq]
    generalize hm : ab_w (ab_w mem1 63 6 (mem1 63 5)) 63 7 (nI (srt (mem 62) L s)) = mem2
    have G1 : ∀ a, a ≠ 63 → mem2 a = mem a := fun a ha => by rw [← hm, ab_w_ne _ _ _ ha, ab_w_ne _ _ _ ha]; exact F1 a ha
    have G2 : ∀ j, j ≠ 5 → j ≠ 6 → j ≠ 7 → mem2 63 j = mem 63 j := fun j a b c => by rw [← hm, w_ne _ _ (Or.inr c), w_ne _ _ (Or.inr b)]; exact F2 j a
    have g5 : mem2 63 5 = nI s := by rw [← hm, w_ne _ _ (Or.inr (by decide))]; exact e5
    have g6 : mem2 63 6 = nI s := by rw [← hm, w_ne _ _ (Or.inr (by decide)), w_eq]; exact m5
    have g7 : mem2 63 7 = nI (srt (mem 62) L s) := by rw [← hm, w_eq]
    have hb := srt_le (tp := mem 62) (L := L) s
    refine ⟨fun a => ⟨i, fun b => ?_, fun b => ?_⟩, fun a => ⟨i, i, ?_⟩⟩
    · have s0 : srt (mem 62) L s = 0 := (ixe_iff (by omega) (by decide)).mp b
      refine h mem2 G1 G2 ?_
      subst es
      exact ⟨g5, by unfold en; rw [if_neg (by omega), if_pos s0]; exact g6, g7⟩
    · have s0 : ¬ srt (mem 62) L s = 0 := fun z => b (by rw [z]; rfl)
      have s3 : ¬ srt (mem 62) L s = 3 := fun z => a (by rw [z]; rfl)
      exact word (L - s) s s mem2 rfl (Nat.le_refl _) hs s0 s3 es (by unfold en; rw [if_neg s3, if_neg s0]) G1 G2 g5 g6 g7
    · have s3 : srt (mem 62) L s = 3 := (ixe_iff (by omega) (by decide)).mp a
      refine h _ (fun a ha => by rw [ab_w_ne _ _ _ ha]; exact G1 a ha) (fun j a b c => by rw [w_ne _ _ (Or.inr b)]; exact G2 j a b c) ?_
      subst es
      exact ⟨by rw [w_ne _ _ (Or.inr (by decide))]; exact g5, by rw [w_eq, g5, nI_1]; unfold en; rw [if_pos s3], by rw [w_ne _ _ (Or.inr (by decide))]; exact g7⟩
  suffices loop : ∀ n j mem1, L - j = n → j ≤ L → skb (mem 62) L j = skb (mem 62) L k → (∀ a, a ≠ 63 → mem1 a = mem a) → (∀ j, j ≠ 5 → mem1 63 j = mem 63 j) → mem1 63 5 = nI j → ab_Go l G ol (d + 1) mRe_step (ab_mc mRe_step) (ab_ms mRe_step) (fun r sh rf mem nx _ _ => K r sh rf mem nx) 8 [.ref 63] [] sh rf mem1 nx 0 0 from
    e_mRe_step ⟨i, i, loop (L - k) k _ rfl hk rfl (fun a ha => ab_w_ne _ _ _ ha) (fun j hj => w_ne _ _ (Or.inr hj)) (by rw [w_eq]; exact h6)⟩
  intro n
  induction n with
  | zero =>
    intro j mem1 hn hj ej F1 F2 m5
    have ee : j = L := by omega
    rw [skb_L (by omega)] at ej
    refine h_mRe_step_8 ⟨i, i, fun _ => ⟨i, i, i, i, tail j mem1 ej hj F1 F2 m5⟩, fun q => absurd (by rw [F2 4 (by decide), h4, m5, ee]; exact Int32.le_refl _) q⟩
  | succ n ih =>
    intro j mem1 hn hj ej F1 F2 m5
    have m4 : mem1 63 4 = nI L := (F2 4 (by decide)).trans h4
    refine h_mRe_step_8 ⟨i, i, fun q => absurd q (by rw [m4, m5]; exact nI_ge (by omega) (by omega)), fun _ => ⟨i, rd_of hS rfl rfl ⟨i, is_of hS rfl rfl, in_of (n := 96) hS rfl rfl (by rw [m5]; exact vp_in_nI (by omega) (by decide)), ?_⟩⟩⟩
    rw [m5, cl_nI (by omega), F1 62 (by decide)]
    refine ⟨fun q => ?_, fun q => ⟨i, i, ?_⟩⟩
    · rw [skb_e q] at ej
      have := tail j mem1 ej hj F1 F2 m5
      rw [m5] at this
      exact ⟨i, i, i, i, this⟩
    · rw [skb_s (by omega) q] at ej
      exact ih (j + 1) _ (by omega) (by omega) ej (fun a ha => by rw [ab_w_ne _ _ _ ha]; exact F1 a ha) (fun z hz => by rw [w_ne _ _ (Or.inr hz)]; exact F2 z hz) (by rw [w_eq, nI_1])
/-- the sign that stands here, -1 if none does -/
def tsg (tp : Row) (L s : Nat) : Int32 := if srt tp L s = 3 then tp s else -1
theorem r_isSign (hS : St sh rf nx) {L s : Nat} {c : Int32} (hL : L ≤ 96) (hR : RS mem (mem 62) L s) (hc : c ≠ -1) (h1 : tsg (mem 62) L s = c → K (some (.int 1)) sh rf mem nx) (h0 : tsg (mem 62) L s ≠ c → K (some (.int 0)) sh rf mem nx) : ab_Cx l G ol (d + 1) mRe_isSign [.ref 63, .int c] sh rf mem nx K := by
  obtain ⟨m5, m6, m7⟩ := hR
  have hb := srt_le (tp := mem 62) (L := L) s
  unfold tsg at h1 h0
  refine e_mRe_isSign ⟨r_is hS, fun q => ⟨Or.inl rfl, h0 ?_⟩, fun q => ⟨r_is hS, ?_⟩⟩
  · rw [if_neg (fun z => q (by rw [m7, z]; rfl))]; exact fun e => hc e.symm
  · rw [m7] at q
    have s3 : srt (mem 62) L s = 3 := (ixe_iff (by omega) (by decide)).mp q
    have := srt_lt (tp := mem 62) (L := L) (k := s) (by omega)
    rw [if_pos s3] at h1 h0
    refine rd_of hS rfl rfl ⟨r_is hS, is_of hS rfl rfl, in_of (n := 96) hS rfl rfl (by rw [m5]; exact vp_in_nI (by omega) (by decide)), ?_⟩
    rw [m5, cl_nI (by omega)]
    exact ⟨fun q => ⟨Or.inl rfl, h0 q⟩, fun q => ⟨Or.inr rfl, h1 q⟩⟩
theorem r_put (hS : St sh rf nx) {n : Nat} {c : Int32} (h2 : mem 63 2 = nI n) (hn : n ≤ 96) (h1 : n < 96 → K none sh rf (ab_w (ab_w mem 64 n c) 63 2 (nI (n + 1))) nx) (h0 : n = 96 → K none sh rf mem nx) : ab_Cx l G ol (d + 1) mRe_put [.ref 63, .int c] sh rf mem nx K := by
  have i := r_is hS
  refine e_mRe_put ⟨i, fun q => h0 ?_, fun q => ⟨i, ?_⟩⟩
  · rw [h2] at q
    rcases Nat.lt_or_ge n 96 with z | z
    · exact absurd q (nI_ge z (by decide))
    · omega
  · rw [h2] at q
    have g : n < 96 := by
      rcases Nat.lt_or_ge n 96 with z | z
      · exact z
      · exact absurd (nI_le (a := 96) z (by omega)) q
    refine rd_of hS rfl rfl ⟨i, is_of hS rfl rfl, in_of (n := 96) hS rfl rfl (by rw [h2]; exact vp_in_nI g (by decide)), i, i, ?_⟩
    rw [h2, cl_nI (by omega), ab_w_ne _ _ _ (by decide), h2, nI_1]
    exact h1 g
theorem r_needsBlank (hS : St sh rf nx) {L s : Nat} (hL : L ≤ 96) (hs : s ≤ L) (h4 : mem 63 4 = nI L) (hR : RS mem (mem 62) L s) (h1 : nbl (mem 62) L s → srt (mem 62) L s ≠ 3 → K (some (.int 1)) sh rf mem nx) (h0 : ¬ (nbl (mem 62) L s ∧ srt (mem 62) L s ≠ 3) → K (some (.int 0)) sh rf mem nx) : ab_Cx l G ol (d + 2) mRe_needsBlank [.ref 63] sh rf mem nx K := by
  obtain ⟨m5, m6, m7⟩ := hR
  have i := r_is hS
  have hb := srt_le (tp := mem 62) (L := L) s
  have hb1 := srt_le (tp := mem 62) (L := L) (s - 1)
  refine e_mRe_needsBlank ⟨i, fun q => ⟨Or.inl rfl, h0 fun z => ?_⟩, fun q => ⟨i, i, ?_⟩⟩
  · rw [m5] at q
    exact absurd q (nI_ge (a := 0) z.1.1 (by omega))
  · rw [m5] at q ⊢
    have s1 : 1 ≤ s := by
      rcases Nat.lt_or_ge s 1 with z | z
      · have : s = 0 := by omega
        subst this
        exact absurd (by decide) q
      · exact z
    rw [show nI s - 1 = nI (s - 1) from pk_sub (b := 1) s1]
    refine r_sortAt hS hL (by omega) h4 ⟨_, rfl, fun q => ⟨Or.inl rfl, h0 fun z => z.1.2 ((ixe_iff (by omega) (by decide)).mp q)⟩, fun q => ⟨i, fun w => ⟨Or.inl rfl, h0 fun z => z.2 ?_⟩, fun w => ⟨Or.inr rfl, h1 ⟨by omega, fun z => q (by rw [z]; rfl)⟩ fun z => w (by rw [m7, z]; rfl)⟩⟩⟩
    rw [m7] at w
    exact (ixe_iff (by omega) (by decide)).mp w
end RL
