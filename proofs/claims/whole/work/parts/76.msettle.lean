/-! THE REFERENCE: what waits, what is put -/
def Cq (mem : ab_N) (cd : List Int32) : Prop := mem 101 20 = nI cd.length ∧ ∀ k, k < cd.length → mem 112 k = cd.getD k 0
def Sk (mem : ab_N) (st : List Int32) : Prop := mem 101 23 = nI st.length ∧ ∀ j, j < st.length → mem 113 (st.length - 1 - j) = st.getD j 0
theorem Sk.top {mem : ab_N} {o : Int32} {st : List Int32} (h : Sk mem (o :: st)) : mem 113 st.length = o := h.2 0 (by simp)
theorem Sk.pop {mem mem' : ab_N} {o : Int32} {st : List Int32} (h : Sk mem (o :: st)) (h1 : mem' 113 = mem 113) (h2 : mem' 101 23 = nI st.length) : Sk mem' st := ⟨h2, fun j hj => by
  have := h.2 (j + 1) (by simp; omega)
  rw [h1, ← show (o :: st).length - 1 - (j + 1) = st.length - 1 - j by simp; omega, this]
  simp⟩
theorem Sk.push {mem mem' : ab_N} {o : Int32} {st : List Int32} (h : Sk mem st) (h1 : mem' 113 = upd (mem 113) st.length o) (h2 : mem' 101 23 = nI (st.length + 1)) : Sk mem' (o :: st) := ⟨by rw [h2]; rfl, fun j hj => by
  rw [h1]
  cases j with
  | zero => simp [upd]
  | succ j =>
    have hj' : j < st.length := by simp at hj; omega
    rw [show (o :: st).length - 1 - (j + 1) = st.length - 1 - j by simp; omega, pk_un (by omega), h.2 j hj']
    simp⟩
theorem Sk.same {mem mem' : ab_N} {st : List Int32} (h : Sk mem st) (h1 : mem' 113 = mem 113) (h2 : mem' 101 23 = mem 101 23) : Sk mem' st := ⟨by rw [h2]; exact h.1, fun j hj => by rw [h1]; exact h.2 j hj⟩
theorem Cq.same {mem mem' : ab_N} {cd : List Int32} (h : Cq mem cd) (h1 : mem' 112 = mem 112) (h2 : mem' 101 20 = mem 101 20) : Cq mem' cd := ⟨by rw [h2]; exact h.1, fun j hj => by rw [h1]; exact h.2 j hj⟩
theorem Cq.put {mem mem' : ab_N} {cd : List Int32} {v : Int32} (h : Cq mem cd) (h1 : mem' 112 = upd (mem 112) cd.length v) (h2 : mem' 101 20 = nI (cd.length + 1)) : Cq mem' (cd ++ [v]) := ⟨by rw [h2]; simp, fun k hk => by
  rw [h1]
  by_cases c : k = cd.length
  · subst c; rw [pk_us]; simp
  · have hk' : k < cd.length := by simp at hk; omega
    rw [pk_un c, h.2 k hk']
    simp [List.getElem?_append_left hk']⟩
/-- what putting may change -/
def FP (mem mem' : ab_N) : Prop := (∀ a, a ≠ 101 → a ≠ 112 → mem' a = mem a) ∧ ∀ j, j ≠ 20 → j ≠ 23 → mem' 101 j = mem 101 j
theorem tkn_le {tp : Row} {L : Nat} (s : Nat) : tkn tp L s ≤ 4 := by
  unfold tkn
  (repeat' split) <;> omega
theorem tkn_3 {tp : Row} {L : Nat} (s : Nat) : tkn tp L s = 3 ↔ srt tp L s = 3 := by
  unfold tkn
  (repeat' split) <;> omega
theorem tkn_0 {tp : Row} {L : Nat} (s : Nat) : tkn tp L s = 0 ↔ srt tp L s = 0 := by
  unfold tkn
  (repeat' split) <;> omega
section MS
variable {l : Launch} {G : ab_G} {ol : ab_Ol} {d : Nat} {sh : ab_S} {rf : ab_R} {mem : ab_N} {nx : Nat} {K : ab_K}
theorem m_rank {o : Int32} (h : K (some (.int (nI (rkS o)))) sh rf mem nx) : ab_Cx l G ol (d + 1) mM_rank [.int o] sh rf mem nx K := by
  refine e_mM_rank ⟨fun a => ⟨fun b => ⟨fun c => ⟨fun e => ⟨fun g => ⟨trivial, ?_⟩, fun g => ⟨trivial, ?_⟩⟩, fun e => ⟨trivial, ?_⟩⟩, fun c => ⟨trivial, ?_⟩⟩, fun b => ⟨trivial, ?_⟩⟩, fun a => ⟨trivial, ?_⟩⟩
  · rw [show rkS o = 6 by unfold rkS; rw [if_neg a, if_neg b, if_neg (Int32.not_le.mpr c), if_neg (Int32.not_le.mpr e), if_neg (Int32.not_le.mpr g)]] at h; exact h
  · rw [show rkS o = 5 by unfold rkS; rw [if_neg a, if_neg b, if_neg (Int32.not_le.mpr c), if_neg (Int32.not_le.mpr e), if_pos (Int32.not_lt.mp g)]] at h; exact h
  · rw [show rkS o = 4 by unfold rkS; rw [if_neg a, if_neg b, if_neg (Int32.not_le.mpr c), if_pos (Int32.not_lt.mp e)]] at h; exact h
  · rw [show rkS o = 3 by unfold rkS; rw [if_neg a, if_neg b, if_pos (Int32.not_lt.mp c)]] at h; exact h
  · rw [show rkS o = 2 by unfold rkS; rw [if_neg a, if_pos b]] at h; exact h
  · rw [show rkS o = 1 by unfold rkS; rw [if_pos a]] at h; exact h
theorem m_settle (hS : St sh rf nx) {r : Nat} (hr : r ≤ 6) {cd st : List Int32} (hC : Cq mem cd) (hK : Sk mem st) (hlen : cd.length + st.length ≤ 96) (h : ∀ mem', FP mem mem' → Cq mem' (stl r cd st).1 → Sk mem' (stl r cd st).2 → K none sh rf mem' nx) : ab_Cx l G ol (d + 2) mM_settle [.ref 101, .int (nI r)] sh rf mem nx K := by
  have i := m9 hS
  suffices loop : ∀ (st2 cd2 : List Int32) (mem1 : ab_N), FP mem mem1 → Cq mem1 cd2 → Sk mem1 st2 → cd2.length + st2.length ≤ 96 → stl r cd2 st2 = stl r cd st → ab_Go l G ol (d + 1) mM_settle (ab_mc mM_settle) (ab_ms mM_settle) (fun r sh rf mem nx _ _ => K r sh rf mem nx) 0 [.ref 101, .int (nI r)] [] sh rf mem1 nx 0 0 from
    ab_enter (Nat.le_of_ble_eq_true rfl) rfl (Nat.le_of_ble_eq_true rfl) (loop st cd mem ⟨fun _ _ _ => rfl, fun _ _ _ => rfl⟩ hC hK hlen rfl)
  intro st2
  induction st2 with
  | nil =>
    intro cd2 mem1 F C1 S1 hl e
    rw [stl] at e
    refine h_mM_settle_0 ⟨i, fun _ => h mem1 F (by rw [← e]; exact C1) (by rw [← e]; exact S1), fun q => absurd (by rw [S1.1]; decide) q⟩
  | cons o st3 ih =>
    intro cd2 mem1 F C1 S1 hl e
    have hl' : cd2.length + st3.length + 1 ≤ 96 := by simp at hl; omega
    have e23 : mem1 101 23 = nI (st3.length + 1) := S1.1
    have em : mem1 101 23 - 1 = nI st3.length := by rw [e23]; exact pk_sub (a := st3.length + 1) (b := 1) (by omega)
    have top := S1.top
    have v3 : vp_in (nI st3.length) 96 := vp_in_nI (by omega) (by decide)
    refine h_mM_settle_0 ⟨i, fun q => absurd q (by rw [e23]; exact nI_ge (a := 0) (by omega) (by omega)), fun _ => ⟨i, rd_of hS rfl rfl ⟨i, is_of hS rfl rfl, in_of (n := 96) hS rfl rfl (by rw [em]; exact v3), ?_⟩⟩⟩
    rw [em, cl_nI (by omega), top]
    rw [stl] at e
    refine ⟨fun q => ?_, fun q => ⟨i, rd_of hS rfl rfl ⟨i, is_of hS rfl rfl, in_of (n := 96) hS rfl rfl v3, Nat.le_refl _, ?_⟩⟩⟩
    · rw [if_neg (fun z => z.1 q)] at e
      exact h mem1 F (by rw [← e]; exact C1) (by rw [← e]; exact S1)
    · rw [top]
      have hk6 := rk_le o
      refine m_rank ⟨_, rfl, fun z => ?_, fun z => ⟨i, i, i, ?_⟩⟩
      · have z' : rkS o < r := (nI_ltI (by omega) (by omega)).mp z
        rw [if_neg (fun w => by omega)] at e
        exact h mem1 F (by rw [← e]; exact C1) (by rw [← e]; exact S1)
      · have z' : r ≤ rkS o := by
          rcases Nat.lt_or_ge (rkS o) r with w | w
          · exact absurd (nI_lt w (by omega)) z
          · exact w
        rw [if_pos ⟨q, z'⟩] at e
        rw [em]
        refine rd_of hS rfl rfl ⟨i, i, rd_of hS rfl rfl ⟨i, is_of hS rfl rfl, ?_⟩⟩
        rw [w_eq, cl_nI (by omega), w_ne _ _ (Or.inr (by decide)), C1.1, cl_nI (by omega), ab_w_ne _ _ _ (by decide), top]
        refine ⟨in_of (n := 96) hS rfl rfl v3, is_of hS rfl rfl, in_of (n := 96) hS rfl rfl (vp_in_nI (by omega) (by decide)), i, i, ?_⟩
        rw [ab_w_ne _ _ _ (by decide), w_ne _ _ (Or.inr (by decide)), C1.1, nI_1]
        generalize hm : ab_w (ab_w (ab_w mem1 101 23 (nI st3.length)) 112 cd2.length o) 101 20 (nI (cd2.length + 1)) = mem2
        have o1 : ∀ a, a ≠ 101 → a ≠ 112 → mem2 a = mem1 a := fun a a1 a2 => by rw [← hm, ab_w_ne _ _ _ a1, ab_w_ne _ _ _ a2, ab_w_ne _ _ _ a1]
        have o2 : ∀ j, j ≠ 20 → j ≠ 23 → mem2 101 j = mem1 101 j := fun j j1 j2 => by rw [← hm, w_ne _ _ (Or.inr j1), ab_w_ne _ _ _ (by decide), w_ne _ _ (Or.inr j2)]
        refine ih (cd2 ++ [o]) mem2 ⟨fun a a1 a2 => by rw [o1 a a1 a2]; exact F.1 a a1 a2, fun j j1 j2 => by rw [o2 j j1 j2]; exact F.2 j j1 j2⟩ (C1.put ?_ ?_) (S1.pop (o1 113 (by decide) (by decide)) ?_) (by simp; omega) e
        · rw [← hm, ab_w_ne _ _ _ (by decide), ab_w_self, ab_w_ne _ _ _ (by decide)]
        · rw [← hm, w_eq]
        · rw [← hm, w_ne _ _ (Or.inr (by decide)), ab_w_ne _ _ _ (by decide), w_eq]
theorem m_notsOpen (hS : St sh rf nx) {st : List Int32} (hK : Sk mem st) (hlen : st.length ≤ 96) (h : K (some (.int (nI (cN st)))) sh rf mem nx) : ab_Cx l G ol (d + 1) mM_notsOpen [.ref 101] sh rf mem nx K := by
  have i := m9 hS
  have cnt : ∀ (q : List Int32), cN q = q.reverse.countP (fun x => x == -10) := fun q => by unfold cN List.count; rw [List.countP_reverse]
  suffices loop : ∀ n j, j + n = st.length → ab_Go l G ol d mM_notsOpen (ab_mc mM_notsOpen) (ab_ms mM_notsOpen) (fun r sh rf mem nx _ _ => K r sh rf mem nx) 4 [.ref 101, .int (nI ((st.reverse.take j).countP (fun x => x == -10))), .int (nI j)] [] sh rf mem nx 0 0 from e_mM_notsOpen (loop st.length 0 (Nat.zero_add _))
  intro n
  induction n with
  | zero =>
    intro j hj
    have : j = st.length := by omega
    subst this
    refine h_mM_notsOpen_4 ⟨i, fun _ => ⟨trivial, ?_⟩, fun q => absurd (by rw [hK.1]; exact Int32.le_refl _) q⟩
    rw [List.take_of_length_le (by simp), ← cnt]
    exact h
  | succ n ih =>
    intro j hj
    have hj2 : j < st.reverse.length := by simp; omega
    have eq : mem 113 j = st.reverse[j] := by
      have := hK.2 (st.length - 1 - j) (by omega)
      rw [show st.length - 1 - (st.length - 1 - j) = j by omega] at this
      rw [this, List.getElem_reverse]
      simp [List.getD_eq_getElem?_getD, show st.length - 1 - j < st.length by omega]
    refine h_mM_notsOpen_4 ⟨i, fun q => absurd q (by rw [hK.1]; exact nI_ge (by omega) (by omega)), fun _ => ⟨i, ma hS rfl rfl rfl (vp_in_nI (by omega) (by decide)) ?_⟩⟩
    rw [cl_nI (by omega), eq]
    have nx1 := ih (j + 1) (by omega)
    rw [List.take_succ_eq_append_getElem hj2, List.countP_append] at nx1
    refine ⟨fun q => ?_, fun q => ?_⟩
    · have := (show ∀ x : Int32, ¬ x = -10 → List.countP (fun x => x == (-10 : Int32)) [x] = 0 from fun x hx => by simp [hx]) _ q
      rw [this] at nx1
      rw [nI_1, show (0 : Int32) = nI 0 from rfl, nI_add]
      exact nx1
    · have := (show ∀ x : Int32, x = -10 → List.countP (fun x => x == (-10 : Int32)) [x] = 1 from fun x hx => by simp [hx]) _ q
      rw [this] at nx1
      rw [nI_1, nI_1]
      exact nx1
theorem m_signHere (hS : St sh rf nx) {tp : Row} {L s : Nat} (hT : TK mem tp L s) (h : K (some (.int (opOf (tsg tp L s)))) sh rf mem nx) : ab_Cx l G ol (d + 1) mM_signHere [.ref 101] sh rf mem nx K := by
  have i := m9 hS
  have hb := srt_le (tp := tp) (L := L) s
  have t5 := tkn_le (tp := tp) (L := L) s
  have t3 := tkn_3 (tp := tp) (L := L) s
  refine e_mM_signHere ⟨i, fun q => ⟨i, ?_⟩, fun q => ⟨trivial, ?_⟩⟩
  · rw [hT.2.2.1] at q
    have s3 := t3.mp ((ixe_iff (by omega) (by decide)).mp q)
    rw [hT.2.2.2.1 (Or.inl s3)]
    unfold tsg at h
    rw [if_pos s3] at h
    unfold opOf at h
    refine ⟨fun a => ⟨trivial, ?_⟩, fun a1 => ⟨fun a => ⟨trivial, ?_⟩, fun a2 => ⟨fun a => ⟨trivial, ?_⟩, fun a3 => ⟨fun a => ⟨trivial, ?_⟩, fun a4 => ⟨fun a => ⟨trivial, ?_⟩, fun a5 => ⟨fun a => ⟨trivial, ?_⟩, fun a6 => ⟨fun a => ⟨trivial, ?_⟩, fun a7 => ⟨fun a => ⟨trivial, ?_⟩, fun a8 => ⟨fun a => ⟨trivial, ?_⟩, fun a9 => ⟨trivial, ?_⟩⟩⟩⟩⟩⟩⟩⟩⟩⟩
    · rw [a] at h; exact h
    · rw [a] at h; exact h
    · rw [a] at h; exact h
    · rw [a] at h; exact h
    · rw [a] at h; exact h
    · rw [a] at h; exact h
    · rw [a] at h; exact h
    · rw [a] at h; exact h
    · rw [a] at h; exact h
    · rw [if_neg a9, if_neg a1, if_neg a6, if_neg a7, if_neg a8, if_neg a3, if_neg a4, if_neg a2, if_neg a5] at h; exact h
  · have s3 : ¬ srt tp L s = 3 := fun z => q (by rw [hT.2.2.1, t3.mpr z]; rfl)
    unfold tsg at h
    rw [if_neg s3] at h
    exact h
theorem m_nameOf (hS : St sh rf nx) {key : Nat} {c : Int32} (hk : key < 3) (h16 : mem 101 16 = nI key) (h : K (some (.int (nm key c))) sh rf mem nx) : ab_Cx l G ol (d + 1) mM_nameOf [.ref 101, .int c] sh rf mem nx K := by
  have i := m9 hS
  unfold nm at h
  have k0 : mem 101 16 = 0 ↔ key = 0 := by rw [h16]; exact ixe_iff (by omega) (by decide)
  have k1 : mem 101 16 = 1 ↔ key = 1 := by rw [h16]; exact ixe_iff (by omega) (by decide)
  refine e_mM_nameOf ⟨i, fun a => ⟨fun b => ⟨fun c => ⟨fun e => ⟨trivial, ?_⟩, fun e => ⟨trivial, ?_⟩⟩, fun c => ⟨trivial, ?_⟩⟩, fun b => ⟨trivial, ?_⟩⟩, fun a => ⟨fun b => ⟨fun c => ⟨fun e => ⟨trivial, ?_⟩, fun e => ⟨trivial, ?_⟩⟩, fun c => ⟨trivial, ?_⟩⟩, fun b => ⟨fun c => ⟨fun e => ⟨trivial, ?_⟩, fun e => ⟨trivial, ?_⟩⟩, fun c => ⟨trivial, ?_⟩⟩⟩⟩
  · rw [if_pos (k0.mp a), if_neg b, if_neg c, if_neg e] at h; exact h
  · rw [if_pos (k0.mp a), if_neg b, if_neg c, if_pos e] at h; exact h
  · rw [if_pos (k0.mp a), if_neg b, if_pos c] at h; exact h
  · rw [if_pos (k0.mp a), if_pos b] at h; exact h
  · rw [if_neg (fun z => a (k0.mpr z)), if_pos (k1.mp b), if_neg c, if_neg e] at h; exact h
  · rw [if_neg (fun z => a (k0.mpr z)), if_pos (k1.mp b), if_neg c, if_pos e] at h; exact h
  · rw [if_neg (fun z => a (k0.mpr z)), if_pos (k1.mp b), if_pos c] at h; exact h
  · rw [if_neg (fun z => a (k0.mpr z)), if_neg (fun z => b (k1.mpr z)), if_neg c, if_neg e] at h; exact h
  · rw [if_neg (fun z => a (k0.mpr z)), if_neg (fun z => b (k1.mpr z)), if_neg c, if_pos e] at h; exact h
  · rw [if_neg (fun z => a (k0.mpr z)), if_neg (fun z => b (k1.mpr z)), if_pos c] at h; exact h
end MS
