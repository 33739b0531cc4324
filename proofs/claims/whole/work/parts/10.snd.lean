/-! THE SMALL MACHINE, part 7: calls, and a step is sound -/
theorem ab_goodc {m : Nat} (hm : m < ab_nM) : GoodIn ab_ws (Cond.code (ab_Y m) (ab_B m) (ab_ML m) (ab_RT m) :: ab_ws) := by
  intro w hw
  rcases List.mem_cons.mp hw with rfl | h
  · exact ab_ws_good _ (ab_cd m hm)
  · exact ab_ws_good _ h
theorem ab_inim {m : Nat} (hm : m < ab_nM) : Cond.initialized (ab_Y m).cls ∈ ab_ws := by
  have hk := ab_mok_at hm
  simp only [ab_mok, Bool.and_eq_true] at hk
  obtain ⟨w, hw, h1⟩ := List.any_eq_true.mp hk.2
  have h1 := of_decide_eq_true h1
  rw [← h1]
  exact List.mem_filter.mpr ⟨hw, by rw [h1]; rfl⟩
theorem ab_hdm {m : Nat} (hm : m < ab_nM) : (ab_Y m).cls ≠ "java/lang/invoke/MethodHandle" ∧ (ab_Y m).cls ≠ "java/lang/invoke/VarHandle" ∧ (parseMethodDescriptor (ab_Y m).desc).map (fun d => d.parameters.length) = some (ab_NP m) := by
  have hk := ab_mok_at hm
  simp only [ab_mok, Bool.and_eq_true, decide_eq_true_eq] at hk
  exact hk.1.1.2
theorem ab_mlm {m : Nat} (hm : m < ab_nM) : ab_ML m ≤ 60 := by
  have hk := ab_mok_at hm
  simp only [ab_mok, Bool.and_eq_true, decide_eq_true_eq] at hk
  exact hk.1.2
theorem ab_blind {G : ab_G} {ol : ab_Ol} {av : List Value} {sh : ab_S} {rf : ab_R} {mem : ab_N} {nx : Nat} : FrameBlind (va_Pc av (fun U => (ab_HR G sh rf mem nx U.heap ∧ ab_O G ol U) ∧ G.1 ≤ U.heap.size)) := by
  intro a U g mk h
  exact ⟨h.1, ⟨⟨h.2.1.1, ab_O.same h.2.1.2 rfl rfl⟩, h.2.2⟩⟩
theorem ab_ret1_sp {st : List Value} {k : Value → Prop} (h : ab_ret1 st k) : ∃ v, st = [v] ∧ k v := by
  unfold ab_ret1 at h; split at h
  · exact ⟨_, rfl, h⟩
  · exact h.elim
theorem ab_switch_sp {x : Int32} {k : Nat → Prop} {d : Nat} : ∀ {vs : List Int32} {ts : List Nat}, ab_switch x k d vs ts → (∃ (j : Nat) (v : Int32) (t : Nat), vs[j]? = some v ∧ ts[j]? = some t ∧ x = v ∧ k t) ∨ ((∀ (j : Nat) (v : Int32), vs[j]? = some v → j < ts.length → ¬ x = v) ∧ k d)
  | [], ts, h => by
    unfold ab_switch at h
    exact Or.inr ⟨fun j v hv => by simp at hv, h⟩
  | v :: vs, [], h => by
    unfold ab_switch at h
    exact Or.inr ⟨fun j v hv hj => by simp at hj, h⟩
  | v :: vs, t :: ts, h => by
    unfold ab_switch at h
    by_cases hx : x = v
    · exact Or.inl ⟨0, v, t, rfl, rfl, hx, h.1 hx⟩
    · rcases ab_switch_sp (h.2 hx) with ⟨j, w, u, h1, h2, h3, h4⟩ | ⟨h1, h2⟩
      · exact Or.inl ⟨j + 1, w, u, by simpa using h1, by simpa using h2, h3, h4⟩
      · refine Or.inr ⟨fun j w hw hj => ?_, h2⟩
        cases j with
        | zero => simp at hw; rw [← hw]; exact hx
        | succ j => exact h1 j w (by simpa using hw) (by simpa using hj)
theorem ab_look {pc dt : Nat} {x : Int32} {k : Nat → Prop} {dd : Int} (hd : (pc : Int) + dd = (dt : Int)) : ∀ {ps : List (Int × Int)} {ts : List Nat} {vs : List Int32}, ps.map (fun q => (pc : Int) + q.2) = ts.map (fun (t : Nat) => (t : Int)) → vs.map (fun v => v.toInt) = ps.map (fun q => q.1) → ab_switch x k dt vs ts → ∃ tg : Nat, (pc : Int) + Op.lookupswitch.offset ps dd x.toInt = (tg : Int) ∧ k tg
  | [], ts, vs, h1, h2, h => by
    have hv : vs = [] := by simpa using h2
    subst hv
    unfold ab_switch at h
    exact ⟨dt, hd, h⟩
  | (a, o) :: ps, [], vs, h1, h2, h => by simp at h1
  | (a, o) :: ps, t :: ts, [], h1, h2, h => by simp at h2
  | (a, o) :: ps, t :: ts, v :: vs, h1, h2, h => by
    simp only [List.map_cons, List.cons.injEq] at h1 h2
    unfold ab_switch at h
    by_cases hx : x = v
    · refine ⟨t, ?_, h.1 hx⟩
      rw [Op.lookupswitch.offset_cons, if_pos (by rw [hx, h2.1])]
      exact h1.1
    · obtain ⟨tg, h3, h4⟩ := ab_look hd h1.2 h2.2 (h.2 hx)
      exact ⟨tg, by rw [lv_osw hx h2.1]; exact h3, h4⟩
theorem ab_push {G : ab_G} {sh : ab_S} {rf : ab_R} {mem : ab_N} {nx : Nat} {H H1 : Heap} {x : Nat × Nat} (hR : ab_HR G sh rf mem nx H) (hnx : nx < ab_old) (z : H1.size = H.size + 1) (o : ∀ q : Nat, q < H.size → H1[q]? = H[q]?)
    (hnew : va_at (ab_D G) vwCl (G.1 + nx, ab_ent G (ab_sw sh nx x) (ab_rz rf nx) (ab_row mem nx fun _ => 0) nx) H1) : ab_HR G (ab_sw sh nx x) (ab_rz rf nx) (ab_row mem nx fun _ => 0) (nx + 1) H1 := by
  refine ⟨hnx, by rw [z, hR.2.1]; omega, fun k q hq => ?_⟩
  obtain ⟨hk, rfl⟩ := ab_wsl_inv hq
  by_cases hkn : k = nx
  · subst hkn; exact hnew
  · have hk' : k < nx := by omega
    have h1 : ab_sw sh nx x k = sh k := if_neg hkn
    have h2 : ab_rz rf nx k = rf k := if_neg hkn
    have h3 : ab_row mem nx (fun _ => 0) k = mem k := if_neg hkn
    have he : ab_ent G (ab_sw sh nx x) (ab_rz rf nx) (ab_row mem nx fun _ => 0) k = ab_ent G sh rf mem k := by
      have hf : ∀ c, ab_fl G (ab_rz rf nx) (ab_row mem nx fun _ => 0) c k = ab_fl G rf mem c k := fun c => List.map_congr_left (fun x _ => by simp only [ab_fv, h2, h3])
      simp only [ab_ent, hf, h1, h2, h3]
    rw [he]
    exact (hR.2.2 k _ (ab_wsl_at hk')).kept (o _ (by rw [hR.2.1]; omega))
theorem ab_call_sp {Cl : ab_Cl} {bc bs t m f : Nat} {as rest : List Value} {sh : ab_S} {rf : ab_R} {mem : ab_N} {nx cu su : Nat} {k : List Value → ab_S → ab_R → ab_N → Nat → Nat → Nat → Prop} (hf : ab_fl0 m f = true) (hcu : cu ≤ bc) (hsu : su ≤ bs) (h : ab_call Cl bc bs t m f as rest sh rf mem nx cu su k) :
    ∃ K : ab_K, Cl m as sh rf mem nx K ∧ (rest.map fun v => v.category).sum ≤ 8 ∧ cu + ab_mc m ≤ bc ∧ su + ab_ms m ≤ bs ∧ ∀ r sh rf mem nx, K r sh rf mem nx → k (r.toList ++ rest) sh rf mem nx (cu + ab_mc m) (su + ab_ms m) := by
  unfold ab_call at h
  split at h
  · simp only [ab_fl0, Bool.and_eq_true, decide_eq_true_eq] at hf
    obtain ⟨h1, h2⟩ := ab_ok8_sp h
    refine ⟨_, h2, h1, by rw [hf.1]; exact hcu, by rw [hf.2]; exact hsu, fun r sh rf mem nx hk => ?_⟩
    rw [hf.1, hf.2]
    exact ab_rv_sp hk
  · obtain ⟨⟨h3, h4⟩, h5⟩ := h
    obtain ⟨h1, h2⟩ := ab_ok8_sp h5
    exact ⟨_, h2, h1, h3, h4, fun r sh rf mem nx hk => ab_rv_sp hk⟩
theorem ab_iniS : Cond.initialized "java/lang/System" ∈ ab_ws := ab_ini_ok (by decide +kernel)
section ABC
variable {p : Program} {l : Launch} {e : Env} {R : Room} {s : State} {m : MethodId} {args : Array Value} {below : List Frame} {meth : Method} {c : Code} {H : Heap} {locs : List Loc} {cells slots : Nat} {Q : State → Prop}
theorem ab_ran {G : ab_G} {K : ab_K} {a : Array Value} {mc ms pc : Nat} {ls : Array Slot} {st0 rest : List Value} (hr : va_Run p l e R s m args below meth c H locs cells slots mc ms (F0 m pc ls st0) rest (ab_Q G K a) (ab_A G)) (hS : va_S (ab_A G) s.heap H locs)
    (kk : ∀ (r : Option Value) (sh : ab_S) (rf : ab_R) (mem : ab_N) (nx : Nat) (H1 : Heap) (locs1 : List Loc), K r sh rf mem nx → ab_HR G sh rf mem nx H1 → va_S (ab_A G) s.heap H1 locs1 → W p l e R s m args below meth c H1 locs1 (cells + mc) (slots + ms) Q (F0 m (pc + 3) ls ((r.map (ab_cv G)).toList ++ rest))) : W p l e R s m args below meth c H locs cells slots Q (F0 m pc ls st0) := by
  intro T hT X
  obtain ⟨v, st₀, t, T', L, h0, X', hL, e1, e2, ⟨⟨r, sh, rf, mem, nx, hv, hR, hk⟩, hz, hk2⟩, st⟩ := hr T hT X
  have hv : v = r.map (ab_cv G) := by injection hv
  subst hv
  rw [h0] at hz hk2
  obtain ⟨t2, a1, b1⟩ := kk r sh rf mem nx T'.heap (locs ++ L) hk (by rw [e1]; exact hR)
    ⟨Nat.le_trans hS.1 (by rw [e1]; exact hz), fun q h1 h2 => by rw [e1, hk2 q (Nat.lt_of_lt_of_le h1 hS.1) h2]; exact hS.2.1 q h1 h2, fun q hq => by
      rcases List.mem_append.mp hq with h | h
      · exact hS.2.2 q h
      · exact hL q h⟩ T' rfl X'
  exact ⟨t2, st t2 a1, b1⟩
end ABC
theorem ab_take {st : List Value} {n : Nat} {b : Nat} {rest : List Value} (h : st = st.take n ++ .ref b :: rest) : (st.take n).length = n := by
  have h1 : st.length = (st.take n).length + (rest.length + 1) := by
    have := congrArg List.length h
    rw [List.length_append, List.length_cons] at this
    exact this
  rw [List.length_take] at h1 ⊢
  omega
set_option maxHeartbeats 4000000 in
/-- a step of the small machine is one of the machine -/
theorem ab_snd {l : Launch} {G : ab_G} {ol : ab_Ol} {d mi bc bs : Nat} {T : List ab_E} {Rt : ab_Rt} {P : ab_P} (hT : ab_ok mi T) (hP : ∀ pc L st sh rf mem nx cu su, P pc L st sh rf mem nx cu su → ab_Go l G ol d mi bc bs Rt pc L st sh rf mem nx cu su)
    {pc : Nat} {L st : List Value} {sh : ab_S} {rf : ab_R} {mem : ab_N} {nx cu su : Nat} (h : ab_step (ab_Cx l G ol d) Rt ol bc bs T P pc L st sh rf mem nx cu su) : ab_Go l G ol d mi bc bs Rt pc L st sh rf mem nx cu su := by
  unfold ab_step at h
  split at h
  · exact h.elim
  rename_i i len o vs hat
  have hE := List.all_eq_true.mp hT _ (ab_at_mem hat)
  simp only [ab_okE, Bool.and_eq_true, decide_eq_true_eq] at hE
  obtain ⟨hd, hi⟩ := hE
  clear hat hT
  intro p e R s m args below meth c Q C0 hend H locs ls hR hS hl hcu hsu
  have C1 := C0
  obtain ⟨hx, hb, hml, hown, hts, hO, hbase, hfr, hlo, hrm, hnm⟩ := C0
  have go : ∀ pc' st', P pc' L st' sh rf mem nx cu su → W p l e R s m args below meth c H locs cu su Q (F0 m pc' ls (st'.map (ab_cv G))) := fun pc' st' q => hP _ _ _ _ _ _ _ _ _ q p e R s m args below meth c Q C1 hend H locs ls hR hS hl hcu hsu
  have goL : ∀ pc' L' st' ls', P pc' L' st' sh rf mem nx cu su → ab_lv G ls' (ab_ML mi) L' → W p l e R s m args below meth c H locs cu su Q (F0 m pc' ls' (st'.map (ab_cv G))) := fun pc' L' st' ls' q hl' => hP _ _ _ _ _ _ _ _ _ q p e R s m args below meth c Q C1 hend H locs ls' hR hS hl' hcu hsu
  have goM : ∀ pc' st' rf' mem' H' locs', P pc' L st' sh rf' mem' nx cu su → H'.size = H.size → va_P (ab_D G) vwCl (ab_wsl G sh rf' mem' nx) H' → va_S (ab_A G) s.heap H' locs' → W p l e R s m args below meth c H' locs' cu su Q (F0 m pc' ls (st'.map (ab_cv G))) := fun pc' st' rf' mem' H' locs' q z hp hs => hP _ _ _ _ _ _ _ _ _ q p e R s m args below meth c Q C1 hend H' locs' ls ⟨hR.1, by rw [z]; exact hR.2.1, hp⟩ hs hl hcu hsu
  cases i with
  | iadd =>
    obtain ⟨a, b, r, rfl, h_1⟩ := ab_i2_sp h
    have e1 : len = 1 := by simpa [ab_okI] using hi
    subst e1
    exact lv_iadd hx hb hd (go _ _ h_1)
  | isub =>
    obtain ⟨a, b, r, rfl, h_1⟩ := ab_i2_sp h
    have e1 : len = 1 := by simpa [ab_okI] using hi
    subst e1
    exact lv_isub hx hb hd (go _ _ h_1)
  | imul =>
    obtain ⟨a, b, r, rfl, h_1⟩ := ab_i2_sp h
    have e1 : len = 1 := by simpa [ab_okI] using hi
    subst e1
    exact lv_imul hx hb hd (go _ _ h_1)
  | iand =>
    obtain ⟨a, b, r, rfl, h_1⟩ := ab_i2_sp h
    have e1 : len = 1 := by simpa [ab_okI] using hi
    subst e1
    exact lv_iand hx hb hd (go _ _ h_1)
  | ishr =>
    obtain ⟨a, b, r, rfl, h_1⟩ := ab_i2_sp h
    have e1 : len = 1 := by simpa [ab_okI] using hi
    subst e1
    exact lv_ishr hx hb hd (go _ _ h_1)
  | iushr =>
    obtain ⟨a, b, r, rfl, h_1⟩ := ab_i2_sp h
    have e1 : len = 1 := by simpa [ab_okI] using hi
    subst e1
    exact lv_iushr hx hb hd rfl (go _ _ h_1)
  | idiv =>
    obtain ⟨a, b, r, rfl, h0, h_1⟩ := ab_i2_sp h
    have e1 : len = 1 := by simpa [ab_okI] using hi
    subst e1
    exact lv_idiv hx hb hd h0 (go _ _ h_1)
  | irem =>
    obtain ⟨a, b, r, rfl, h0, h_1⟩ := ab_i2_sp h
    have e1 : len = 1 := by simpa [ab_okI] using hi
    subst e1
    exact lv_irem hx hb hd h0 (go _ _ h_1)
  | ineg =>
    obtain ⟨a, r, rfl, h_1⟩ := ab_i1_sp h
    have e1 : len = 1 := by simpa [ab_okI] using hi
    subst e1
    exact lv_ineg hx hb hd (go _ _ h_1)
  | i2s =>
    obtain ⟨a, r, rfl, h_1⟩ := ab_i1_sp h
    have e1 : len = 1 := by simpa [ab_okI] using hi
    subst e1
    exact lv_i2s hx hb hd rfl (go _ _ h_1)
  | i2c =>
    obtain ⟨a, r, rfl, h_1⟩ := ab_i1_sp h
    have e1 : len = 1 := by simpa [ab_okI] using hi
    subst e1
    exact lv_i2c hx hb hd rfl (go _ _ h_1)
  | i2l =>
    obtain ⟨a, r, rfl, h_1⟩ := ab_i1_sp h
    have e1 : len = 1 := by simpa [ab_okI] using hi
    subst e1
    exact lv_i2l hx hb hd rfl (go _ _ h_1)
  | l2i =>
    obtain ⟨a, r, rfl, h_1⟩ := ab_l1_sp h
    have e1 : len = 1 := by simpa [ab_okI] using hi
    subst e1
    exact lv_l2i hx hb hd rfl (go _ _ h_1)
  | lneg =>
    obtain ⟨a, r, rfl, h_1⟩ := ab_l1_sp h
    have e1 : len = 1 := by simpa [ab_okI] using hi
    subst e1
    exact lv_lneg hx hb hd (go _ _ h_1)
  | ladd =>
    obtain ⟨a, b, r, rfl, h_1⟩ := ab_l2_sp h
    have e1 : len = 1 := by simpa [ab_okI] using hi
    subst e1
    exact lv_ladd hx hb hd (go _ _ h_1)
  | lsub =>
    obtain ⟨a, b, r, rfl, h_1⟩ := ab_l2_sp h
    have e1 : len = 1 := by simpa [ab_okI] using hi
    subst e1
    exact lv_lsub hx hb hd (go _ _ h_1)
  | lcmp =>
    obtain ⟨a, b, r, rfl, h_1⟩ := ab_l2_sp h
    have e1 : len = 1 := by simpa [ab_okI] using hi
    subst e1
    exact W.lcmp hx hb hd (go _ _ h_1)
  | iconst n =>
    obtain ⟨v, vr, rfl, h_1⟩ := ab_v1_sp h
    simp only [ab_okI, Bool.and_eq_true, decide_eq_true_eq] at hi; simp only [List.headD_cons] at hi
    obtain ⟨rfl, hv⟩ := hi
    exact lv_iconst hx hb hd hv (go _ _ h_1)
  | bipush n =>
    obtain ⟨v, vr, rfl, h_1⟩ := ab_v1_sp h
    simp only [ab_okI, Bool.and_eq_true, decide_eq_true_eq] at hi; simp only [List.headD_cons] at hi
    obtain ⟨rfl, hv⟩ := hi
    exact lv_bipush hx hb hd hv (go _ _ h_1)
  | sipush n =>
    obtain ⟨v, vr, rfl, h_1⟩ := ab_v1_sp h
    simp only [ab_okI, Bool.and_eq_true, decide_eq_true_eq] at hi; simp only [List.headD_cons] at hi
    obtain ⟨rfl, hv⟩ := hi
    exact lv_sipush hx hb hd hv (go _ _ h_1)
  | ldc_w idx =>
    obtain ⟨v, vr, rfl, h_1⟩ := ab_v1_sp h
    simp only [ab_okI, Bool.and_eq_true, decide_eq_true_eq] at hi
    obtain ⟨rfl, hv⟩ := hi
    exact lv_ldcw hx hb hown (hts _ (ab_wd_ok hv)) hd (go _ _ h_1)
  | ldc idx =>
    cases vs with
    | cons v vr =>
      simp only [ab_okI, Bool.and_eq_true, decide_eq_true_eq] at hi
      obtain ⟨rfl, hv⟩ := hi
      exact lv_ldc hx hb hown (hts _ (ab_wd_ok hv)) hd (go _ _ h)
    | nil =>
      obtain ⟨j, k, r, rfl, h_1⟩ := ab_o2_sp h
      simp only [ab_okI, Bool.and_eq_true, decide_eq_true_eq] at hi; simp only [List.getD_cons_succ, List.getD_cons_zero] at hi
      obtain ⟨rfl, hk, hw, hj⟩ := hi
      have hz := hO.2.2.2.2.2.2.2.1 k hk
      rw [hw, hj] at hz
      have hgo := go _ _ h_1
      refine va_ldcS hx hb hown hz hd ?_
      have e2 : ab_loc G (ab_old + 2 + k) = G.2.2.2.2 (2 + k) := by
        unfold ab_loc
        rw [if_neg (by omega)]
        rw [show ab_old + 2 + k - ab_old = 2 + k by omega]
      rw [← e2]
      exact hgo
  | lconst n =>
    have e1 : len = 1 := by simpa [ab_okI] using hi
    subst e1
    exact lv_lconst hx hb hd rfl (go _ _ h)
  | iload j =>
    obtain ⟨i, r, rfl, h_1⟩ := ab_o1_sp h
    obtain ⟨x, hx1, h_2⟩ := ab_li_sp h_1
    simp only [ab_okI, Bool.and_eq_true, decide_eq_true_eq] at hi; simp only [List.headD_cons] at hi
    obtain ⟨rfl, rfl⟩ := hi
    exact lv_iload hx hb hd (ab_lv_at hl hx1 rfl) (go _ _ h_2)
  | iload_n j =>
    obtain ⟨i, r, rfl, h_1⟩ := ab_o1_sp h
    obtain ⟨x, hx1, h_2⟩ := ab_li_sp h_1
    simp only [ab_okI, Bool.and_eq_true, decide_eq_true_eq] at hi; simp only [List.headD_cons] at hi
    obtain ⟨rfl, hj⟩ := hi
    exact lv_iload_n hx hb hd hj (ab_lv_at hl hx1 rfl) (go _ _ h_2)
  | aload j =>
    obtain ⟨i, r, rfl, h_1⟩ := ab_o1_sp h
    obtain ⟨x, hx1, h_2⟩ := ab_la_sp h_1
    simp only [ab_okI, Bool.and_eq_true, decide_eq_true_eq] at hi; simp only [List.headD_cons] at hi
    obtain ⟨rfl, rfl⟩ := hi
    exact lv_aload hx hb hd (ab_lv_at hl hx1 rfl) (go _ _ h_2)
  | aload_n j =>
    obtain ⟨i, r, rfl, h_1⟩ := ab_o1_sp h
    obtain ⟨x, hx1, h_2⟩ := ab_la_sp h_1
    simp only [ab_okI, Bool.and_eq_true, decide_eq_true_eq] at hi; simp only [List.headD_cons] at hi
    obtain ⟨rfl, hj⟩ := hi
    exact lv_aload_n hx hb hd hj (ab_lv_at hl hx1 rfl) (go _ _ h_2)
  | lload j =>
    obtain ⟨i, r, rfl, h_1⟩ := ab_o1_sp h
    obtain ⟨x, hx1, h_2⟩ := ab_ll_sp h_1
    simp only [ab_okI, Bool.and_eq_true, decide_eq_true_eq] at hi; simp only [List.headD_cons] at hi
    obtain ⟨rfl, rfl⟩ := hi
    exact lv_lload hx hb hd (ab_lv_at hl hx1 rfl) (go _ _ h_2)
  | lload_n j =>
    obtain ⟨i, r, rfl, h_1⟩ := ab_o1_sp h
    obtain ⟨x, hx1, h_2⟩ := ab_ll_sp h_1
    simp only [ab_okI, Bool.and_eq_true, decide_eq_true_eq] at hi; simp only [List.headD_cons] at hi
    obtain ⟨rfl, hj⟩ := hi
    exact lv_lload_n hx hb hd hj (ab_lv_at hl hx1 rfl) (go _ _ h_2)
  | istore j =>
    obtain ⟨i, r, rfl, h_1⟩ := ab_o1_sp h
    obtain ⟨x, st, rfl, h_2⟩ := ab_i1_sp h_1
    obtain ⟨hn1, hn2, h_3⟩ := ab_so_sp h_2
    simp only [ab_okI, Bool.and_eq_true, decide_eq_true_eq] at hi; simp only [List.headD_cons] at hi
    obtain ⟨rfl, rfl⟩ := hi
    exact lv_istore hx hb hd hl.2 (Nat.lt_of_lt_of_le hn2 hl.1) rfl (fun ls hl2 => goL _ _ _ ls h_3 (ab_lv_st1 (v := .int x) hl.1 hn1 hl2))
  | istore_n j =>
    obtain ⟨i, r, rfl, h_1⟩ := ab_o1_sp h
    obtain ⟨x, st, rfl, h_2⟩ := ab_i1_sp h_1
    obtain ⟨hn1, hn2, h_3⟩ := ab_so_sp h_2
    simp only [ab_okI, Bool.and_eq_true, decide_eq_true_eq] at hi; simp only [List.headD_cons] at hi
    obtain ⟨rfl, hj⟩ := hi
    exact lv_istore_n hx hb hd hj hl.2 (Nat.lt_of_lt_of_le hn2 hl.1) rfl (fun ls hl2 => goL _ _ _ ls h_3 (ab_lv_st1 (v := .int x) hl.1 hn1 hl2))
  | astore j =>
    obtain ⟨i, r, rfl, h_1⟩ := ab_o1_sp h
    obtain ⟨x, st, rfl, h_2⟩ := ab_r1_sp h_1
    obtain ⟨hn1, hn2, h_3⟩ := ab_so_sp h_2
    simp only [ab_okI, Bool.and_eq_true, decide_eq_true_eq] at hi; simp only [List.headD_cons] at hi
    obtain ⟨rfl, rfl⟩ := hi
    exact lv_astore hx hb hd hl.2 (Nat.lt_of_lt_of_le hn2 hl.1) rfl (fun ls hl2 => goL _ _ _ ls h_3 (ab_lv_st1 (v := .ref x) hl.1 hn1 hl2))
  | astore_n j =>
    obtain ⟨i, r, rfl, h_1⟩ := ab_o1_sp h
    obtain ⟨x, st, rfl, h_2⟩ := ab_r1_sp h_1
    obtain ⟨hn1, hn2, h_3⟩ := ab_so_sp h_2
    simp only [ab_okI, Bool.and_eq_true, decide_eq_true_eq] at hi; simp only [List.headD_cons] at hi
    obtain ⟨rfl, hj⟩ := hi
    exact lv_astore_n hx hb hd hj hl.2 (Nat.lt_of_lt_of_le hn2 hl.1) rfl (fun ls hl2 => goL _ _ _ ls h_3 (ab_lv_st1 (v := .ref x) hl.1 hn1 hl2))
  | lstore j =>
    obtain ⟨i, r, rfl, h_1⟩ := ab_o1_sp h
    obtain ⟨x, st, rfl, h_2⟩ := ab_l1_sp h_1
    obtain ⟨hn1, hn2, h_3⟩ := ab_so2_sp h_2
    simp only [ab_okI, Bool.and_eq_true, decide_eq_true_eq] at hi; simp only [List.headD_cons] at hi
    obtain ⟨rfl, rfl⟩ := hi
    exact lv_lstore hx hb hd hl.2 (Nat.lt_of_lt_of_le hn2 hl.1) rfl (fun ls hl2 => goL _ _ _ ls h_3 (ab_lv_st2 (v := .long x) hl.1 hn1 hl2))
  | lstore_n j =>
    obtain ⟨i, r, rfl, h_1⟩ := ab_o1_sp h
    obtain ⟨x, st, rfl, h_2⟩ := ab_l1_sp h_1
    obtain ⟨hn1, hn2, h_3⟩ := ab_so2_sp h_2
    simp only [ab_okI, Bool.and_eq_true, decide_eq_true_eq] at hi; simp only [List.headD_cons] at hi
    obtain ⟨rfl, hj⟩ := hi
    exact lv_lstore_n hx hb hd hj hl.2 (Nat.lt_of_lt_of_le hn2 hl.1) rfl (fun ls hl2 => goL _ _ _ ls h_3 (ab_lv_st2 (v := .long x) hl.1 hn1 hl2))
  | iinc j n =>
    obtain ⟨i, r, rfl, h_1⟩ := ab_o1_sp h
    obtain ⟨v, vr, rfl, h_2⟩ := ab_v1_sp h_1
    obtain ⟨x, hx1, h_3⟩ := ab_li_sp h_2
    obtain ⟨hn1, hn2, h_4⟩ := ab_so_sp h_3
    simp only [ab_okI, Bool.and_eq_true, decide_eq_true_eq] at hi; simp only [List.headD_cons] at hi
    obtain ⟨⟨rfl, rfl⟩, rfl⟩ := hi
    have hm1 : (j, Value.int x) ∈ ab_al G (ab_ML mi) L := ab_al_mem.mpr ⟨.int x, Nat.lt_of_lt_of_le hn2 hl.1, hx1, rfl, rfl⟩
    obtain ⟨kk, hkk⟩ := List.getElem?_of_mem hm1
    exact lv_iinc hx hb hd hl.2 hkk rfl (Nat.lt_of_lt_of_le hn2 hl.1) rfl (fun ls hl2 => goL _ _ _ ls h_4 (ab_lv_st1 (v := .int (x + Int32.ofInt n)) hl.1 hn1 hl2))
  | dup =>
    have e1 : len = 1 := by simpa [ab_okI] using hi
    subst e1
    cases st with
    | nil => exact h.elim
    | cons v r =>
      cases v with
      | int x => exact lv_dup hx hb hd rfl (go _ _ h)
      | ref x => exact lv_dup hx hb hd rfl (go _ _ h)
      | _ => exact h.elim
  | dup2 =>
    have e1 : len = 1 := by simpa [ab_okI] using hi
    subst e1
    obtain ⟨i, a, r, rfl, h_1⟩ := ab_ir_sp h
    exact lv_dup2_11 hx hb hd rfl rfl (go _ _ h_1)
  | pop =>
    have e1 : len = 1 := by simpa [ab_okI] using hi
    subst e1
    cases st with
    | nil => exact h.elim
    | cons v r =>
      cases v with
      | int x => exact lv_pop (va := .int x) hx hb hd rfl (go _ _ h)
      | ref x => exact lv_pop (va := .ref (ab_loc G x)) hx hb hd rfl (go _ _ h)
      | _ => exact h.elim
  | ifCond cd off =>
    obtain ⟨t, o2, rfl, h_1⟩ := ab_o1_sp h
    obtain ⟨x, r, rfl, h_2⟩ := ab_i1_sp h_1
    simp only [ab_okI, Bool.and_eq_true, decide_eq_true_eq] at hi; simp only [List.headD_cons] at hi
    obtain ⟨rfl, ht⟩ := hi
    cases cd with
    | eq => exact lv_if_eq hx hb hd ht (fun q => go _ _ (h_2.1 q)) (fun q => go _ _ (h_2.2 q))
    | ne => exact lv_if_ne hx hb hd ht (fun q => go _ _ (h_2.1 q)) (fun q => go _ _ (h_2.2 q))
    | lt => exact lv_if_lt hx hb hd ht (fun q => go _ _ (h_2.1 q)) (fun q => go _ _ (h_2.2 q))
    | ge => exact lv_if_ge hx hb hd ht (fun q => go _ _ (h_2.1 q)) (fun q => go _ _ (h_2.2 q))
    | gt => exact lv_if_gt hx hb hd ht (fun q => go _ _ (h_2.1 q)) (fun q => go _ _ (h_2.2 q))
    | le => exact lv_if_le hx hb hd ht (fun q => go _ _ (h_2.1 q)) (fun q => go _ _ (h_2.2 q))
  | if_icmp cd off =>
    obtain ⟨t, o2, rfl, h_1⟩ := ab_o1_sp h
    obtain ⟨x, y, r, rfl, h_2⟩ := ab_i2_sp h_1
    simp only [ab_okI, Bool.and_eq_true, decide_eq_true_eq] at hi; simp only [List.headD_cons] at hi
    obtain ⟨rfl, ht⟩ := hi
    cases cd with
    | eq => exact lv_icmp_eq hx hb hd ht (fun q => go _ _ (h_2.1 q)) (fun q => go _ _ (h_2.2 q))
    | ne => exact lv_icmp_ne hx hb hd ht (fun q => go _ _ (h_2.1 q)) (fun q => go _ _ (h_2.2 q))
    | lt => exact lv_icmp_lt hx hb hd ht (fun q => go _ _ (h_2.1 q)) (fun q => go _ _ (h_2.2 q))
    | ge => exact lv_icmp_ge hx hb hd ht (fun q => go _ _ (h_2.1 q)) (fun q => go _ _ (h_2.2 q))
    | gt => exact lv_icmp_gt hx hb hd ht (fun q => go _ _ (h_2.1 q)) (fun q => go _ _ (h_2.2 q))
    | le => exact lv_icmp_le hx hb hd ht (fun q => go _ _ (h_2.1 q)) (fun q => go _ _ (h_2.2 q))
  | ifnonnull off =>
    obtain ⟨t, o2, rfl, h_1⟩ := ab_o1_sp h
    obtain ⟨x, r, rfl, h_2⟩ := ab_r1_sp h_1
    simp only [ab_okI, Bool.and_eq_true, decide_eq_true_eq] at hi; simp only [List.headD_cons] at hi
    obtain ⟨rfl, ht⟩ := hi
    exact lv_ifnonnull hx hb hd ht (go _ _ h_2)
  | ifnull off =>
    obtain ⟨x, r, rfl, h_1⟩ := ab_r1_sp h
    have e1 : len = 3 := by simpa [ab_okI] using hi
    subst e1
    exact lv_ifnull hx hb hd (go _ _ h_1)
  | goto off =>
    obtain ⟨t, o2, rfl, h_1⟩ := ab_o1_sp h
    simp only [ab_okI, Bool.and_eq_true, decide_eq_true_eq] at hi; simp only [List.headD_cons] at hi
    obtain ⟨rfl, ht⟩ := hi
    exact lv_goto hx hb hd ht (go _ _ h_1)
  | tableswitch dd lo hi2 offs =>
    cases o with
    | nil => exact h.elim
    | cons dt ts =>
      obtain ⟨x, r, rfl, h_1⟩ := ab_i1_sp h
      simp only [ab_okI, Bool.and_eq_true, decide_eq_true_eq] at hi; simp only [List.headD_cons, List.tail_cons] at hi
      obtain ⟨⟨⟨hdt, hts2⟩, hvs⟩, hhi⟩ := hi
      rcases ab_switch_sp h_1 with ⟨j, v, t, hv, ht, rfl, h_2⟩ | ⟨hno, h_2⟩
      · have hj : (x.toInt : Int) = lo + (j : Int) := by
          have := congrArg (fun q => q[j]?) hvs
          simp only [List.getElem?_map, hv] at this
          cases hr : (List.range offs.size)[j]? with
          | none => rw [hr] at this; cases this
          | some q =>
            rw [hr] at this
            have hq := List.getElem?_eq_some_iff.mp hr
            have hq2 : q = j := by rw [← hq.2]; simp
            rw [hq2] at this
            exact Option.some.inj this
        have hjl : j < offs.size := by
          have h1 : vs.length = offs.size := by have := congrArg List.length hvs; simpa using this
          have h2 := (List.getElem?_eq_some_iff.mp hv).1
          omega
        have ho : offs[(x.toInt - lo).toNat]? = some (offs[j]) := by
          have : (x.toInt - lo).toNat = j := by omega
          rw [this]
          exact Array.getElem?_eq_getElem hjl
        have ht2 : (pc : Int) + offs[j] = (t : Int) := by
          have := congrArg (fun q => q[j]?) hts2
          simp only [List.getElem?_map, ht, Array.getElem?_toList, Array.getElem?_eq_getElem hjl] at this
          exact Option.some.inj this
        exact lv_tableIn hx hb hd (by omega) (by omega) ho ht2 (go _ _ h_2)
      · refine lv_tableOut hx hb hd ?_ hdt (go _ _ h_2)
        rcases Int.lt_or_le x.toInt lo with q | q
        · exact Or.inl q
        · rcases Int.lt_or_le hi2 x.toInt with q2 | q2
          · exact Or.inr q2
          · exfalso
            have h1 : vs.length = offs.size := by have := congrArg List.length hvs; simpa using this
            have hlt : (x.toInt - lo).toNat < vs.length := by omega
            have hlt2 : (x.toInt - lo).toNat < ts.length := by
              have h2 : offs.size = ts.length := by have := congrArg List.length hts2; simpa using this
              omega
            refine hno (x.toInt - lo).toNat _ (List.getElem?_eq_getElem hlt) hlt2 ?_
            apply Int32.toInt_inj.mp
            have := congrArg (fun q => q[(x.toInt - lo).toNat]?) hvs
            simp only [List.getElem?_map, List.getElem?_eq_getElem hlt] at this
            rw [List.getElem?_range (by omega)] at this
            have : vs[(x.toInt - lo).toNat].toInt = lo + ((x.toInt - lo).toNat : Int) := Option.some.inj this
            rw [this]
            omega
  | lookupswitch dd ps =>
    cases o with
    | nil => exact h.elim
    | cons dt ts =>
      obtain ⟨x, r, rfl, h_1⟩ := ab_i1_sp h
      simp only [ab_okI, Bool.and_eq_true, decide_eq_true_eq] at hi; simp only [List.headD_cons, List.tail_cons] at hi
      obtain ⟨⟨⟨hdt, hts2⟩, hvs⟩, hso⟩ := hi
      obtain ⟨tg, ht, h_2⟩ := ab_look hdt hts2 hvs h_1
      exact lv_lookup hx hb hd hso rfl ht (go _ _ h_2)
  | getfield idx =>
    obtain ⟨t, j, cn, k, o2, rfl, h_1⟩ := ab_o4_sp h
    obtain ⟨a, r, rfl, h_2⟩ := ab_r1_sp h_1
    obtain ⟨⟨hlt, hsh⟩, h_3⟩ := h_2
    simp only [ab_okI, Bool.and_eq_true, decide_eq_true_eq] at hi; simp only [List.headD_cons, List.getD_cons_succ, List.getD_cons_zero] at hi
    obtain ⟨⟨⟨⟨rfl, hc, hk⟩, ht⟩, hdc⟩, hw⟩ := hi
    have el : ab_loc G a = G.1 + a := ab_loc_lt (Nat.lt_of_lt_of_le hlt hR.1)
    have he : (ab_wsl G sh rf mem nx)[a]? = some (G.1 + a, .inr (cn, ab_fl G rf mem cn a)) := by rw [ab_wsl_at hlt, ab_ent_obj hsh hc]
    show W p l e R s m args below meth c H locs cu su Q (F0 m pc ls (.ref (ab_loc G a) :: r.map (ab_cv G)))
    rw [el]
    refine va_get (D := ab_D G) (cl := vwCl) (tys := ab_tys G) (ref := (ab_cl cn).1) hx hb hts (ab_uw hc) hown hO.1 hR.2.2 a he (ab_cl_at hc) k (by rw [ab_cl_nf hc]; exact hk) (hts _ (ab_wd_ok hw)) (fun x hx => by rw [← hdc]; exact hx) (v := ab_fv G rf mem cn a k) (ab_fl_at hk) hd ?_
    by_cases h1 : t = 1
    · subst h1
      obtain ⟨b, hb1, h_4⟩ := h_3
      have : ab_fv G rf mem cn a k = .ref (ab_loc G b) := by unfold ab_fv; rw [if_pos ht.symm, hb1]; rfl
      rw [this]
      exact go _ _ h_4
    · have : ab_fv G rf mem cn a k = .int (mem a k) := by unfold ab_fv; rw [if_neg (by rw [← ht]; exact h1)]
      rw [this]
      split at h_3
      · exact absurd rfl h1
      · exact go _ _ h_3
  | putfield idx =>
    obtain ⟨t, j, cn, k, o2, rfl, h_1⟩ := ab_o4_sp h
    simp only [ab_okI, Bool.and_eq_true, Bool.or_eq_true, decide_eq_true_eq] at hi; simp only [List.headD_cons, List.getD_cons_succ, List.getD_cons_zero] at hi
    obtain ⟨⟨⟨⟨⟨rfl, hc, hk⟩, ht⟩, hdc⟩, hw⟩, hf⟩ := hi
    have hfin : (ab_T cn k).2.2.2 = false ∨ (meth.name = "<init>" ∧ (ab_Y mi).cls = (ab_cl cn).1) := by rw [hnm]; exact hf
    have hty := ab_ty_kind hc hk
    by_cases h1 : t = 1
    · subst h1
      obtain ⟨x, a, r, rfl, ⟨hlt, hsh⟩, h_2⟩ := ab_ro_sp h_1
      have el : ab_loc G a = G.1 + a := ab_loc_lt (Nat.lt_of_lt_of_le hlt hR.1)
      have he : (ab_wsl G sh rf mem nx)[a]? = some (G.1 + a, .inr (cn, ab_fl G rf mem cn a)) := by rw [ab_wsl_at hlt, ab_ent_obj hsh hc]
      show W p l e R s m args below meth c H locs cu su Q (F0 m pc ls (.ref (ab_loc G x) :: .ref (ab_loc G a) :: r.map (ab_cv G)))
      rw [el]
      have hrk := hty.2.2 ht.symm
      have hnf : narrow (ab_ty cn k) (.ref (ab_loc G x)) = .ref (ab_loc G x) ∧ fits (ab_ty cn k) (.ref (ab_loc G x)) = true := by
        cases hq : ab_ty cn k <;> rw [hq] at hrk <;> first | (cases hrk; done) | exact ⟨rfl, rfl⟩
      refine ab_putf (D := ab_D G) (cl := vwCl) (tys := ab_tys G) hx hb hts (ab_uw hc) (ab_ty cn) (ab_ty_ok hc) (ab_nm hc) hown hO.1 hR.2.2 ab_wsl_D hS a he (ab_cl_at hc) k (by rw [ab_cl_nf hc]; exact hk) (hts _ (ab_wd_ok hw)) hdc hfin (v := .ref (ab_loc G x)) hnf.1 hnf.2 (by rw [ab_fl_len]; exact hk) hd (fun H1 locs1 hp hz hs => ?_)
      rw [ab_wsl_set (rf' := ab_wr rf a k (some x)) (mem' := mem) (by rw [ab_ent_obj hsh hc, ← ab_fl_setR ht.symm]; rfl) (fun b hb => ab_ent_wr hb)] at hp
      exact goM _ _ _ _ H1 locs1 h_2 hz hp hs
    by_cases h2 : t = 2
    · subst h2
      obtain ⟨x, a, r, rfl, ⟨hlt, hsh⟩, hx01, h_2⟩ := ab_io_sp h_1
      have el : ab_loc G a = G.1 + a := ab_loc_lt (Nat.lt_of_lt_of_le hlt hR.1)
      have he : (ab_wsl G sh rf mem nx)[a]? = some (G.1 + a, .inr (cn, ab_fl G rf mem cn a)) := by rw [ab_wsl_at hlt, ab_ent_obj hsh hc]
      show W p l e R s m args below meth c H locs cu su Q (F0 m pc ls (.int x :: .ref (ab_loc G a) :: r.map (ab_cv G)))
      rw [el]
      have hrk := hty.2.1 ht.symm
      have hnf : narrow (ab_ty cn k) (.int x) = .int x ∧ fits (ab_ty cn k) (.int x) = true := by
        rw [hrk]
        rcases hx01 with rfl | rfl <;> exact ⟨by decide +kernel, by decide +kernel⟩
      refine ab_putf (D := ab_D G) (cl := vwCl) (tys := ab_tys G) hx hb hts (ab_uw hc) (ab_ty cn) (ab_ty_ok hc) (ab_nm hc) hown hO.1 hR.2.2 ab_wsl_D hS a he (ab_cl_at hc) k (by rw [ab_cl_nf hc]; exact hk) (hts _ (ab_wd_ok hw)) hdc hfin (v := .int x) hnf.1 hnf.2 (by rw [ab_fl_len]; exact hk) hd (fun H1 locs1 hp hz hs => ?_)
      rw [ab_wsl_set (rf' := rf) (mem' := ab_w mem a k x) (by rw [ab_ent_obj hsh hc, ← ab_fl_setI (by rw [← ht]; decide)]) (fun b hb => ab_ent_w hb)] at hp
      exact goM _ _ _ _ H1 locs1 h_2 hz hp hs
    · have h_3 : ab_io st fun x a r => ab_is sh nx a cn ∧ P (pc + 3) L r sh rf (ab_w mem a k x) nx cu su := by
        split at h_1
        · exact absurd rfl h1
        · exact absurd rfl h2
        · exact h_1
      obtain ⟨x, a, r, rfl, ⟨hlt, hsh⟩, h_2⟩ := ab_io_sp h_3
      have h0 : ab_ft cn k = 0 := by
        have : ∀ c, c < 10 → ∀ k, k < ab_nf c → ab_ft c k = 0 ∨ ab_ft c k = 1 ∨ ab_ft c k = 2 := by decide +kernel
        rcases this cn hc k hk with q | q | q
        · exact q
        · exact absurd (ht.trans q) h1
        · exact absurd (ht.trans q) h2
      have el : ab_loc G a = G.1 + a := ab_loc_lt (Nat.lt_of_lt_of_le hlt hR.1)
      have he : (ab_wsl G sh rf mem nx)[a]? = some (G.1 + a, .inr (cn, ab_fl G rf mem cn a)) := by rw [ab_wsl_at hlt, ab_ent_obj hsh hc]
      show W p l e R s m args below meth c H locs cu su Q (F0 m pc ls (.int x :: .ref (ab_loc G a) :: r.map (ab_cv G)))
      rw [el]
      have hrk := hty.1 h0
      have hnf : narrow (ab_ty cn k) (.int x) = .int x ∧ fits (ab_ty cn k) (.int x) = true := by
        rw [hrk]; exact ⟨rfl, rfl⟩
      refine ab_putf (D := ab_D G) (cl := vwCl) (tys := ab_tys G) hx hb hts (ab_uw hc) (ab_ty cn) (ab_ty_ok hc) (ab_nm hc) hown hO.1 hR.2.2 ab_wsl_D hS a he (ab_cl_at hc) k (by rw [ab_cl_nf hc]; exact hk) (hts _ (ab_wd_ok hw)) hdc hfin (v := .int x) hnf.1 hnf.2 (by rw [ab_fl_len]; exact hk) hd (fun H1 locs1 hp hz hs => ?_)
      rw [ab_wsl_set (rf' := rf) (mem' := ab_w mem a k x) (by rw [ab_ent_obj hsh hc, ← ab_fl_setI (by rw [h0]; decide)]) (fun b hb => ab_ent_w hb)] at hp
      exact goM _ _ _ _ H1 locs1 h_2 hz hp hs
  | getstatic idx =>
    simp only [ab_okI, Bool.and_eq_true, decide_eq_true_eq] at hi
    obtain ⟨rfl, hw, rfl⟩ := hi
    have hgo := go _ _ h
    refine va_getsN (C := "RoundFigures") (n := "KIND_ABOVE") (d := "[I") (ref := "RoundFigures") (host := "RoundFigures") hx hb hO.2.2.2.2.2.1 hS (own := RX6) (by rw [← hw]; exact hown) (va_Nw.use rfl hO.2.2.1) (fun _ q => q) hd ?_
    have e2 : ab_loc G (ab_old + 1) = G.2.2.2.2 1 := by
      unfold ab_loc
      rw [if_neg (by omega), show ab_old + 1 - ab_old = 1 by omega]
    rw [← e2]
    exact hgo
  | iaload =>
    have e1 : len = 1 := by simpa [ab_okI] using hi
    subst e1
    obtain ⟨i, a, r, rfl, h_1⟩ := ab_ir_sp h
    show W p l e R s m args below meth c H locs cu su Q (F0 m pc ls (.int i :: .ref (ab_loc G a) :: r.map (ab_cv G)))
    cases o with
    | nil =>
      obtain ⟨⟨hlt, hsh⟩, hin, h_2⟩ := h_1
      have el : ab_loc G a = G.1 + a := ab_loc_lt (Nat.lt_of_lt_of_le hlt hR.1)
      have he : (ab_wsl G sh rf mem nx)[a]? = some (G.1 + a, .inl (G.2.2.2.1 10, (sh a).2, .inl (mem a))) := by rw [ab_wsl_at hlt, ab_ent_num hsh (by decide) (by decide)]
      rw [el]
      exact va_iald (tys := ab_tys G) hx hb hO.1 hR.2.2 a 0 he rfl hin hd (go _ _ h_2)
    | cons o1 o2 =>
      obtain ⟨h1, h2, hin, h_2⟩ := h_1
      have el : ab_loc G a = G.2.2.2.2 (a - ab_old) := by unfold ab_loc; rw [if_neg (by omega)]
      rw [el]
      exact va_ti hx hb (hO.2.2.2.2.1 (a - ab_old) (by omega)) hS hin rfl hd (go _ _ h_2)
  | baload =>
    have e1 : len = 1 := by simpa [ab_okI] using hi
    subst e1
    obtain ⟨i, a, r, rfl, ⟨hlt, hsh⟩, hin, h_2⟩ := ab_ir_sp h
    have el : ab_loc G a = G.1 + a := ab_loc_lt (Nat.lt_of_lt_of_le hlt hR.1)
    have he : (ab_wsl G sh rf mem nx)[a]? = some (G.1 + a, .inl (G.2.2.2.1 11, (sh a).2, .inl (mem a))) := by rw [ab_wsl_at hlt, ab_ent_num hsh (by decide) (by decide)]
    show W p l e R s m args below meth c H locs cu su Q (F0 m pc ls (.int i :: .ref (ab_loc G a) :: r.map (ab_cv G)))
    rw [el]
    exact va_zald (tys := ab_tys G) hx hb hO.1 hR.2.2 a 1 he rfl hin hd (go _ _ h_2)
  | caload =>
    have e1 : len = 1 := by simpa [ab_okI] using hi
    subst e1
    obtain ⟨i, a, r, rfl, ⟨hlt, hsh⟩, hin, h_2⟩ := ab_ir_sp h
    have el : ab_loc G a = G.1 + a := ab_loc_lt (Nat.lt_of_lt_of_le hlt hR.1)
    have he : (ab_wsl G sh rf mem nx)[a]? = some (G.1 + a, .inl (G.2.2.2.1 12, (sh a).2, .inl (mem a))) := by rw [ab_wsl_at hlt, ab_ent_num hsh (by decide) (by decide)]
    show W p l e R s m args below meth c H locs cu su Q (F0 m pc ls (.int i :: .ref (ab_loc G a) :: r.map (ab_cv G)))
    rw [el]
    exact va_cald (tys := ab_tys G) hx hb hO.1 hR.2.2 a 2 he rfl hin hd (go _ _ h_2)
  | aaload =>
    obtain ⟨cn, o2, rfl, h_0⟩ := ab_o1_sp h
    obtain ⟨i, a, r, rfl, ⟨hlt, hsh⟩, hin, b, hb1, h_2⟩ := ab_ir_sp h_0
    simp only [ab_okI, Bool.and_eq_true, decide_eq_true_eq] at hi; simp only [List.headD_cons] at hi
    obtain ⟨rfl, hi⟩ := hi
    have el : ab_loc G a = G.1 + a := ab_loc_lt (Nat.lt_of_lt_of_le hlt hR.1)
    have he : (ab_wsl G sh rf mem nx)[a]? = some (G.1 + a, .inl (G.2.2.2.1 cn, (sh a).2, .inr (.inr (.inr (.inr (fun j => (rf a j).map (ab_loc G))))))) := by rw [ab_wsl_at hlt, ab_ent_ref hsh (by omega)]
    have hgo : W p l e R s m args below meth c H locs cu su Q (F0 m (pc + 1) ls (va_rf ((fun j => (rf a j).map (ab_loc G)) i.toNatClampNeg) :: r.map (ab_cv G))) := by
      show W p l e R s m args below meth c H locs cu su Q (F0 m (pc + 1) ls (va_rf ((rf a i.toNatClampNeg).map (ab_loc G)) :: r.map (ab_cv G)))
      rw [hb1]
      exact go _ _ h_2
    show W p l e R s m args below meth c H locs cu su Q (F0 m pc ls (.int i :: .ref (ab_loc G a) :: r.map (ab_cv G)))
    rw [el]
    rcases hi with rfl | rfl | rfl | rfl
    · exact va_aldq (tys := ab_tys G) hx hb hO.1 hR.2.2 a 3 he rfl hin hd hgo
    · exact va_aldq (tys := ab_tys G) hx hb hO.1 hR.2.2 a 4 he rfl hin hd hgo
    · exact va_aldq (tys := ab_tys G) hx hb hO.1 hR.2.2 a 5 he rfl hin hd hgo
    · exact va_aldq (tys := ab_tys G) hx hb hO.1 hR.2.2 a 6 he rfl hin hd hgo
  | iastore =>
    have e1 : len = 1 := by simpa [ab_okI] using hi
    subst e1
    obtain ⟨x, i, a, r, rfl, ⟨hlt, hsh⟩, hin, h_2⟩ := ab_iir_sp h
    have el : ab_loc G a = G.1 + a := ab_loc_lt (Nat.lt_of_lt_of_le hlt hR.1)
    have he : (ab_wsl G sh rf mem nx)[a]? = some (G.1 + a, .inl (G.2.2.2.1 10, (sh a).2, .inl (mem a))) := by rw [ab_wsl_at hlt, ab_ent_num hsh (by decide) (by decide)]
    show W p l e R s m args below meth c H locs cu su Q (F0 m pc ls (.int x :: .int i :: .ref (ab_loc G a) :: r.map (ab_cv G)))
    rw [el]
    refine ab_past (tys := ab_tys G) hx hb hO.1 hR.2.2 ab_wsl_D hS a 0 he rfl hin (y := x) (Or.inl ⟨rfl, hd, rfl⟩) (fun H1 locs1 hp hz hs => ?_)
    rw [ab_wsl_set (rf' := rf) (mem' := ab_w mem a i.toNatClampNeg (x)) (by rw [ab_ent_num hsh (by decide) (by decide), ab_w_self]) (fun b hb => ab_ent_w hb)] at hp
    exact goM _ _ _ _ H1 locs1 h_2 hz hp hs
  | bastore =>
    have e1 : len = 1 := by simpa [ab_okI] using hi
    subst e1
    obtain ⟨x, i, a, r, rfl, ⟨hlt, hsh⟩, hin, h_2⟩ := ab_iir_sp h
    have el : ab_loc G a = G.1 + a := ab_loc_lt (Nat.lt_of_lt_of_le hlt hR.1)
    have he : (ab_wsl G sh rf mem nx)[a]? = some (G.1 + a, .inl (G.2.2.2.1 11, (sh a).2, .inl (mem a))) := by rw [ab_wsl_at hlt, ab_ent_num hsh (by decide) (by decide)]
    show W p l e R s m args below meth c H locs cu su Q (F0 m pc ls (.int x :: .int i :: .ref (ab_loc G a) :: r.map (ab_cv G)))
    rw [el]
    refine ab_past (tys := ab_tys G) hx hb hO.1 hR.2.2 ab_wsl_D hS a 1 he rfl hin (y := vp_nar .boolean x) (Or.inr (Or.inl ⟨rfl, hd, rfl⟩)) (fun H1 locs1 hp hz hs => ?_)
    rw [ab_wsl_set (rf' := rf) (mem' := ab_w mem a i.toNatClampNeg (vp_nar .boolean x)) (by rw [ab_ent_num hsh (by decide) (by decide), ab_w_self]) (fun b hb => ab_ent_w hb)] at hp
    exact goM _ _ _ _ H1 locs1 h_2 hz hp hs
  | castore =>
    have e1 : len = 1 := by simpa [ab_okI] using hi
    subst e1
    obtain ⟨x, i, a, r, rfl, ⟨hlt, hsh⟩, hin, h_2⟩ := ab_iir_sp h
    have el : ab_loc G a = G.1 + a := ab_loc_lt (Nat.lt_of_lt_of_le hlt hR.1)
    have he : (ab_wsl G sh rf mem nx)[a]? = some (G.1 + a, .inl (G.2.2.2.1 12, (sh a).2, .inl (mem a))) := by rw [ab_wsl_at hlt, ab_ent_num hsh (by decide) (by decide)]
    show W p l e R s m args below meth c H locs cu su Q (F0 m pc ls (.int x :: .int i :: .ref (ab_loc G a) :: r.map (ab_cv G)))
    rw [el]
    refine ab_past (tys := ab_tys G) hx hb hO.1 hR.2.2 ab_wsl_D hS a 2 he rfl hin (y := vp_nar .char x) (Or.inr (Or.inr ⟨rfl, hd, rfl⟩)) (fun H1 locs1 hp hz hs => ?_)
    rw [ab_wsl_set (rf' := rf) (mem' := ab_w mem a i.toNatClampNeg (vp_nar .char x)) (by rw [ab_ent_num hsh (by decide) (by decide), ab_w_self]) (fun b hb => ab_ent_w hb)] at hp
    exact goM _ _ _ _ H1 locs1 h_2 hz hp hs
  | aastore =>
    obtain ⟨cn, ce, o2, rfl, h_0⟩ := ab_o2_sp h
    obtain ⟨x, i, a, r, rfl, ⟨hlt, hsh⟩, ⟨hlx, hshx⟩, hin, h_2⟩ := ab_rir_sp h_0
    simp only [ab_okI, Bool.and_eq_true, decide_eq_true_eq] at hi; simp only [List.headD_cons, List.getD_cons_succ, List.getD_cons_zero] at hi
    obtain ⟨⟨rfl, hi⟩, hce⟩ := hi
    have hc : ce < 10 := by omega
    have el : ab_loc G a = G.1 + a := ab_loc_lt (Nat.lt_of_lt_of_le hlt hR.1)
    have elx : ab_loc G x = G.1 + x := ab_loc_lt (Nat.lt_of_lt_of_le hlx hR.1)
    have he : (ab_wsl G sh rf mem nx)[a]? = some (G.1 + a, .inl (G.2.2.2.1 cn, (sh a).2, .inr (.inr (.inr (.inr (fun j => (rf a j).map (ab_loc G))))))) := by rw [ab_wsl_at hlt, ab_ent_ref hsh (by omega)]
    have hex : (ab_wsl G sh rf mem nx)[x]? = some (G.1 + x, .inr (ce, ab_fl G rf mem ce x)) := by rw [ab_wsl_at hlx, ab_ent_obj hshx hc]
    show W p l e R s m args below meth c H locs cu su Q (F0 m pc ls (.ref (ab_loc G x) :: .int i :: .ref (ab_loc G a) :: r.map (ab_cv G)))
    rw [el, elx]
    have fin : ∀ (H1 : Heap) (locs1 : List Loc), va_P (ab_D G) vwCl ((ab_wsl G sh rf mem nx).set a (G.1 + a, .inl (G.2.2.2.1 cn, (sh a).2, .inr (.inr (.inr (.inr (va_up (fun j => (rf a j).map (ab_loc G)) i.toNatClampNeg (some (G.1 + x))))))))) H1 → H1.size = H.size → va_S (ab_A G) s.heap H1 locs1 → W p l e R s m args below meth c H1 locs1 cu su Q (F0 m (pc + 1) ls (r.map (ab_cv G))) := by
      intro H1 locs1 hp hz hs
      rw [ab_wsl_set (rf' := ab_wr rf a i.toNatClampNeg (some x)) (mem' := mem) (by
        rw [ab_ent_ref hsh (by omega), ab_wr_self]
        congr 7
        funext q
        by_cases hq : q = i.toNatClampNeg
        · simp [va_up, hq, elx]
        · simp [va_up, hq]) (fun b hb => ab_ent_wr hb)] at hp
      exact goM _ _ _ _ H1 locs1 h_2 hz hp hs
    rcases hi with rfl | rfl | rfl | rfl
    · have : ce = 3 := by omega
      subst this
      exact ab_aast (tys := ab_tys G) hx hb hO.1 hR.2.2 ab_wsl_D hS a 3 x 3 he rfl hex rfl hin hd fin
    · have : ce = 4 := by omega
      subst this
      exact ab_aast (tys := ab_tys G) hx hb hO.1 hR.2.2 ab_wsl_D hS a 4 x 4 he rfl hex rfl hin hd fin
    · have : ce = 5 := by omega
      subst this
      exact ab_aast (tys := ab_tys G) hx hb hO.1 hR.2.2 ab_wsl_D hS a 5 x 5 he rfl hex rfl hin hd fin
    · have : ce = 6 := by omega
      subst this
      exact ab_aast (tys := ab_tys G) hx hb hO.1 hR.2.2 ab_wsl_D hS a 6 x 6 he rfl hex rfl hin hd fin
  | arraylength =>
    simp only [ab_okI, Bool.and_eq_true, decide_eq_true_eq] at hi
    obtain ⟨rfl, hi⟩ := hi
    have num : ∀ kk : Nat, kk = 10 ∨ kk = 11 ∨ kk = 12 → (ab_r1 st fun a r => ab_is sh nx a kk ∧ P (pc + 1) L (.int (Int32.ofNat (sh a).2) :: r) sh rf mem nx cu su) → W p l e R s m args below meth c H locs cu su Q (F0 m pc ls (st.map (ab_cv G))) := by
      intro kk hkk h_1
      obtain ⟨a, r, rfl, ⟨hlt, hsh⟩, h_2⟩ := ab_r1_sp h_1
      have el : ab_loc G a = G.1 + a := ab_loc_lt (Nat.lt_of_lt_of_le hlt hR.1)
      have he : (ab_wsl G sh rf mem nx)[a]? = some (G.1 + a, .inl (G.2.2.2.1 kk, (sh a).2, .inl (mem a))) := by rw [ab_wsl_at hlt, ab_ent_num hsh (by omega) (by omega)]
      show W p l e R s m args below meth c H locs cu su Q (F0 m pc ls (.ref (ab_loc G a) :: r.map (ab_cv G)))
      rw [el]
      rcases hkk with rfl | rfl | rfl
      · exact va_alen (tys := ab_tys G) hx hb hO.1 hR.2.2 a 0 he rfl rfl hd (go _ _ h_2)
      · exact va_alen (tys := ab_tys G) hx hb hO.1 hR.2.2 a 1 he rfl rfl hd (go _ _ h_2)
      · exact va_alen (tys := ab_tys G) hx hb hO.1 hR.2.2 a 2 he rfl rfl hd (go _ _ h_2)
    rcases hi with rfl | rfl | rfl | rfl
    · obtain ⟨a, r, rfl, h1, h2, h_2⟩ := ab_r1_sp h
      have el : ab_loc G a = G.2.2.2.2 (a - ab_old) := by unfold ab_loc; rw [if_neg (by omega)]
      show W p l e R s m args below meth c H locs cu su Q (F0 m pc ls (.ref (ab_loc G a) :: r.map (ab_cv G)))
      rw [el]
      exact va_tlen hx hb (hO.2.2.2.2.1 (a - ab_old) (by omega)) hS rfl hd (go _ _ h_2)
    · exact num 10 (Or.inl rfl) h
    · exact num 11 (Or.inr (Or.inl rfl)) h
    · exact num 12 (Or.inr (Or.inr rfl)) h
  | new idx =>
    obtain ⟨cn, o2, rfl, ⟨hb1, hb2⟩, hnx, h_2⟩ := ab_o1_sp h
    simp only [ab_okI, Bool.and_eq_true, decide_eq_true_eq] at hi; simp only [List.headD_cons, List.getD_cons_succ] at hi
    obtain ⟨⟨⟨⟨rfl, hc⟩, hw1⟩, hw2⟩, hini⟩ := hi
    have hKn := hO.1.1 cn _ (ab_cl_at hc)
    refine W.newcK hx hb hown (hts _ (ab_wd_ok hw1)) (hts _ (ab_wd_ok hw2)) (hts _ (ab_ini_ok hini)) rfl hd (by rw [hrm.1]; exact hb1) (by rw [hrm.2]; exact hb2) hKn.2.1 hR.2.1 fun H1 kC hkC e1 z1 o1 => ?_
    have hR1 : ab_HR G (ab_sw sh nx (cn, 0)) (ab_rz rf nx) (ab_row mem nx fun _ => 0) (nx + 1) H1 := by
      refine ab_push hR hnx (by rw [z1, hR.2.1]) (fun q hq => o1 q (by rw [← hR.2.1]; exact hq)) ?_
      have hsw : (ab_sw sh nx (cn, 0) nx).1 = cn := by simp [ab_sw]
      rw [ab_ent_obj hsw hc]
      refine ⟨_, ab_cl_at hc, (u_born (ab_ty cn) hts (ab_uw hc) hKn hkC e1 (ab_ty_ok hc)).to (fun k hk => ?_)⟩
      have hk : k < ab_nf cn := by rw [← ab_cl_nf hc]; exact hk
      have hty := ab_ty_kind hc hk
      have : ∀ c, c < 10 → ∀ k, k < ab_nf c → ab_ft c k = 0 ∨ ab_ft c k = 1 ∨ ab_ft c k = 2 := by decide +kernel
      show defaultValue (ab_ty cn k) = (ab_fl G (ab_rz rf nx) (ab_row mem nx fun _ => 0) cn nx).getD k .null
      rw [List.getD_eq_getElem?_getD, ab_fl_at hk]
      show defaultValue (ab_ty cn k) = ab_fv G (ab_rz rf nx) (ab_row mem nx fun _ => 0) cn nx k
      unfold ab_fv
      rcases this cn hc k hk with q | q | q
      · rw [hty.1 q, if_neg (by rw [q]; decide)]; simp [ab_row, defaultValue]
      · have hrk := hty.2.2 q
        rw [if_pos q]
        have : ab_rz rf nx nx k = none := by simp [ab_rz]
        rw [this]
        cases hq : ab_ty cn k <;> rw [hq] at hrk <;> first | (cases hrk; done) | rfl
      · rw [hty.2.1 q, if_neg (by rw [q]; decide)]; simp [ab_row, defaultValue]
    have el : ab_loc G nx = G.1 + nx := ab_loc_lt hnx
    have hgo := hP _ _ _ _ _ _ _ _ _ h_2 p e R s m args below meth c Q C1 hend H1 locs ls hR1 ⟨Nat.le_trans hS.1 (by rw [z1, hR.2.1]; omega), fun q g1 g2 => (o1 q (by rw [← hR.2.1]; exact Nat.lt_of_lt_of_le g1 hS.1)).trans (hS.2.1 q g1 g2), hS.2.2⟩ hl (by rw [hrm.1]; exact hb1) (by rw [hrm.2]; exact hb2)
    have hgo : W p l e R s m args below meth c H1 locs (cu + 1) (su + ab_nf cn) Q (F0 m (pc + 3) ls (.ref (ab_loc G nx) :: st.map (ab_cv G))) := hgo
    rw [el] at hgo
    exact hgo
  | newarray t =>
    obtain ⟨cn, o2, rfl, h_1⟩ := ab_o1_sp h
    obtain ⟨n, r, rfl, ⟨hb1, hb2⟩, hn0, hn1, hnx, h_2⟩ := ab_i1_sp h_1
    simp only [ab_okI, Bool.and_eq_true, decide_eq_true_eq] at hi; simp only [List.headD_cons, List.getD_cons_succ] at hi
    obtain ⟨⟨rfl, hk⟩, hw⟩ := hi
    have hbytes : n.toNatClampNeg * componentBytes (newarray.typeOf t) ≤ 536870912 := by
      have : componentBytes (newarray.typeOf t) ≤ 8 := by cases t <;> decide
      exact Nat.le_trans (Nat.mul_le_mul hn1 this) (by decide)
    refine va_newaK hx hb (hts _ (ab_wd_ok hw)) rfl hd rfl hn0 rfl hbytes (by rw [hrm.1]; exact hb1) (by rw [hrm.2]; exact hb2) hR.2.1 fun H1 cA e1 z1 o1 hAr hNm => ?_
    have hcA : cA = G.2.2.2.1 cn := by
      rcases hk with ⟨rfl, rfl⟩ | ⟨rfl, rfl⟩ | ⟨rfl, rfl⟩
      · exact Option.some.inj (hNm.symm.trans (hO.1.2 0 _ rfl).2)
      · exact Option.some.inj (hNm.symm.trans (hO.1.2 1 _ rfl).2)
      · exact Option.some.inj (hNm.symm.trans (hO.1.2 2 _ rfl).2)
    have hdef : defaultValue (newarray.typeOf t) = .int 0 := by rcases hk with ⟨rfl, rfl⟩ | ⟨rfl, rfl⟩ | ⟨rfl, rfl⟩ <;> rfl
    have hR1 : ab_HR G (ab_sw sh nx (cn, n.toNatClampNeg)) (ab_rz rf nx) (ab_row mem nx fun _ => 0) (nx + 1) H1 := by
      refine ab_push hR hnx (by rw [z1, hR.2.1]) (fun q hq => o1 q (by rw [← hR.2.1]; exact hq)) ?_
      have hsw : (ab_sw sh nx (cn, n.toNatClampNeg) nx).1 = cn := by simp [ab_sw]
      have hsw2 : (ab_sw sh nx (cn, n.toNatClampNeg) nx).2 = n.toNatClampNeg := by simp [ab_sw]
      rw [ab_ent_num hsw (by omega) (by omega), hsw2]
      show H1[G.1 + nx]? = some (vp_cell _ _)
      rw [e1, vp_cell_i, hcA, hdef]
      simp [ab_row]
    have el : ab_loc G nx = G.1 + nx := ab_loc_lt hnx
    have hgo := hP _ _ _ _ _ _ _ _ _ h_2 p e R s m args below meth c Q C1 hend H1 locs ls hR1 ⟨Nat.le_trans hS.1 (by rw [z1, hR.2.1]; omega), fun q g1 g2 => (o1 q (by rw [← hR.2.1]; exact Nat.lt_of_lt_of_le g1 hS.1)).trans (hS.2.1 q g1 g2), hS.2.2⟩ hl (by rw [hrm.1]; exact hb1) (by rw [hrm.2]; exact hb2)
    have hgo : W p l e R s m args below meth c H1 locs (cu + 1) (su + n.toNatClampNeg) Q (F0 m (pc + 2) ls (.ref (ab_loc G nx) :: r.map (ab_cv G))) := hgo
    rw [el] at hgo
    exact hgo
  | anewarray idx =>
    obtain ⟨cn, o2, rfl, h_1⟩ := ab_o1_sp h
    obtain ⟨n, r, rfl, ⟨hb1, hb2⟩, hn0, hn1, hnx, h_2⟩ := ab_i1_sp h_1
    simp only [ab_okI, Bool.and_eq_true, decide_eq_true_eq] at hi; simp only [List.headD_cons, List.getD_cons_succ] at hi
    obtain ⟨⟨rfl, hk⟩, hw⟩ := hi
    refine W.anew hx hb hown (hts _ (ab_wd_ok hw)) (va_AO.use (hO.2.2.2.1 cn hk)) rfl hd rfl hn0 (by omega) (by rw [hrm.1]; exact hb1) (by rw [hrm.2]; exact hb2) fun cA kA comp f1 f2 f3 f4 => ?_
    generalize hH1 : H.push ({ cls := cA, slots := Array.replicate n.toNatClampNeg .null, vm := .none } : Cell) = H1
    have z1 : H1.size = H.size + 1 := by rw [← hH1, Array.size_push]
    have e1 : H1[H.size]? = some (arrV cA n.toNatClampNeg (fun _ => .null)) := by rw [← hH1, Array.getElem?_push_size, ← arrV_new]
    have o1 : ∀ q : Nat, q < H.size → H1[q]? = H[q]? := fun q hq => by rw [← hH1, Array.getElem?_push, if_neg (Nat.ne_of_lt hq)]
    have hcA : cA = G.2.2.2.1 (20 + cn) := by
      rcases hk with rfl | rfl | rfl | rfl
      · obtain ⟨_, _, _, _, _, q⟩ := (hO.1.2 3 _ rfl).2; exact Option.some.inj (f1.symm.trans q)
      · obtain ⟨_, _, _, _, _, q⟩ := (hO.1.2 4 _ rfl).2; exact Option.some.inj (f1.symm.trans q)
      · obtain ⟨_, _, _, _, _, q⟩ := (hO.1.2 5 _ rfl).2; exact Option.some.inj (f1.symm.trans q)
      · obtain ⟨_, _, _, _, _, q⟩ := (hO.1.2 6 _ rfl).2; exact Option.some.inj (f1.symm.trans q)
    have hR1 : ab_HR G (ab_sw sh nx (20 + cn, n.toNatClampNeg)) (ab_rz rf nx) (ab_row mem nx fun _ => 0) (nx + 1) H1 := by
      refine ab_push hR hnx z1 o1 ?_
      have hsw : (ab_sw sh nx (20 + cn, n.toNatClampNeg) nx).1 = 20 + cn := by simp [ab_sw]
      have hsw2 : (ab_sw sh nx (20 + cn, n.toNatClampNeg) nx).2 = n.toNatClampNeg := by simp [ab_sw]
      rw [ab_ent_ref hsw (by omega), hsw2]
      show H1[G.1 + nx]? = some (vp_cell _ _)
      rw [← hR.2.1, e1, vp_cell_q, hcA]
      simp [ab_rz, va_rf]
    have el : ab_loc G nx = H.size := by rw [ab_loc_lt hnx, hR.2.1]
    have hgo := hP _ _ _ _ _ _ _ _ _ h_2 p e R s m args below meth c Q C1 hend H1 locs ls hR1 ⟨Nat.le_trans hS.1 (by rw [z1]; omega), fun q g1 g2 => (o1 q (Nat.lt_of_lt_of_le g1 hS.1)).trans (hS.2.1 q g1 g2), hS.2.2⟩ hl (by rw [hrm.1]; exact hb1) (by rw [hrm.2]; exact hb2)
    have hgo : W p l e R s m args below meth c H1 locs (cu + 1) (su + n.toNatClampNeg) Q (F0 m (pc + 3) ls (.ref (ab_loc G nx) :: r.map (ab_cv G))) := hgo
    rw [el] at hgo
    exact hgo
  | invokevirtual idx =>
    simp only [ab_okI, Bool.and_eq_true, decide_eq_true_eq] at hi
    obtain ⟨⟨⟨⟨rfl, hm⟩, hn⟩, hf0⟩, hi⟩ := hi
    split at hi
    · rename_i t m1 n f cn jl ji js
      simp only [List.getD_cons_succ, List.getD_cons_zero] at hm hn hf0
      have h_0 : ab_recv st n fun b as rest => ab_is sh nx b cn ∧ ab_call (ab_Cx l G ol d) bc bs t m1 f as rest sh rf mem nx cu su (fun st sh rf mem nx cu su => P (pc + 3) L st sh rf mem nx cu su) := h
      obtain ⟨b, rest, hst, ⟨hlt, hsh⟩, h_call⟩ := ab_recv_sp h_0
      simp only [Bool.and_eq_true, decide_eq_true_eq] at hi
      obtain ⟨⟨⟨⟨hc, hcls⟩, hw1⟩, hw2⟩, hw3⟩ := hi
      have el : ab_loc G b = G.1 + b := ab_loc_lt (Nat.lt_of_lt_of_le hlt hR.1)
      have he : (ab_wsl G sh rf mem nx)[b]? = some (G.1 + b, .inr (cn, ab_fl G rf mem cn b)) := by rw [ab_wsl_at hlt, ab_ent_obj hsh hc]
      have hrecv : ∃ cellB : Cell, H[ab_loc G b]? = some cellB ∧ cellB.vm.isStatics = false ∧ s.vm.findClass (ab_Y m1).cls = some cellB.cls := by
        rw [el, hcls]
        exact va_recv hO.1 hR.2.2 (ab_cl_at hc) he
      have hnp : (st.take n).length = n := ab_take hst
      obtain ⟨K, hCx, h8, hc1, hs1, hK2⟩ := ab_call_sp hf0 (by rw [← hrm.1]; exact hcu) (by rw [← hrm.2]; exact hsu) h_call
      rw [← hrm.1] at hc1
      rw [← hrm.2] at hs1
      have hr := va_runV (C := (ab_Y m1).cls) (b := ab_loc G b) (As := (st.take n).reverse.map (ab_cv G)) (rest := rest.map (ab_cv G)) (n := ab_NP m1) (nL := ab_ML mi) (g := F0 m pc ls (st.map (ab_cv G))) (locs := locs) (e := e) (below := below) (meth := meth) (cells := cu) (slots := su) ⟨hx, hb, hml, hown, hts⟩ hCx
        ⟨callB_of (ab_NP m1) hts (ab_goodc hm) rfl rfl rfl (hts _ (ab_inim hm)) (hts _ (ab_wd_ok hw1)) (ab_hdm hm) ⟨by omega, by have := ab_mlm hm; show 8 + (ab_ML m1 + 11) + 100 * d ≤ _; omega⟩, hts _ (ab_wd_ok hw2), hts _ (ab_wd_ok hw3)⟩
        ⟨ab_blind, hrecv, fun U hU hW => ⟨rfl, ⟨⟨by rw [hU]; exact hR, hO.call hW (fun a h1 h2 => by rw [hU]; exact hS.2.1 a h1 h2)⟩, by rw [hU]; exact Nat.le_trans hbase hS.1⟩⟩⟩ rfl (by rw [List.length_map, List.length_reverse, hnp]; exact hn) hl.2.1
        (by
          show st.map (ab_cv G) = ((st.take n).reverse.map (ab_cv G)).reverse ++ .ref (ab_loc G b) :: rest.map (ab_cv G)
          rw [← List.map_reverse, List.reverse_reverse]
          conv => lhs; rw [hst]
          rw [List.map_append]
          rfl)
        (by show 2 * 0 + _ ≤ 8; rw [ab_sum]; omega) hd ⟨hc1, hs1⟩
      refine ab_ran hr hS (fun r sh1 rf1 mem1 nx1 H1 locs1 hk1 hR1 hS1 => ?_)
      have hgo := hP _ _ _ _ _ _ _ _ _ (hK2 r sh1 rf1 mem1 nx1 hk1) p e R s m args below meth c Q C1 hend H1 locs1 ls hR1 hS1 hl hc1 hs1
      have e9 : (r.toList ++ rest).map (ab_cv G) = (r.map (ab_cv G)).toList ++ rest.map (ab_cv G) := by cases r <;> rfl
      rw [e9] at hgo
      exact hgo
    · rename_i t m1 n f jl ji js
      simp only [List.getD_cons_succ, List.getD_cons_zero] at hm hn hf0
      have h_0 : ab_recv st n fun b as rest => ab_old + 2 ≤ b ∧ b < ab_old + 8 ∧ ab_call (ab_Cx l G ol d) bc bs t m1 f as rest sh rf mem nx cu su (fun st sh rf mem nx cu su => P (pc + 3) L st sh rf mem nx cu su) := h
      obtain ⟨b, rest, hst, hlb, hlb2, h_call⟩ := ab_recv_sp h_0
      simp only [Bool.and_eq_true, decide_eq_true_eq] at hi
      obtain ⟨⟨⟨hcls, hw1⟩, hw2⟩, hw3⟩ := hi
      obtain ⟨z, hz, el⟩ : ∃ z, z < 6 ∧ ab_loc G b = G.2.2.2.2 (2 + z) := by
        refine ⟨b - ab_old - 2, by omega, ?_⟩
        unfold ab_loc
        rw [if_neg (by omega), show 2 + (b - ab_old - 2) = b - ab_old by omega]
      have hrecv : ∃ cellB : Cell, H[ab_loc G b]? = some cellB ∧ cellB.vm.isStatics = false ∧ s.vm.findClass (ab_Y m1).cls = some cellB.cls := by
        rw [el, hcls]
        exact vk_recv (adK := fun i => G.2.2.2.2 (2 + i)) (i := z) hO.2.2.2.2.2.2.1 hz hS
      have hnp : (st.take n).length = n := ab_take hst
      obtain ⟨K, hCx, h8, hc1, hs1, hK2⟩ := ab_call_sp hf0 (by rw [← hrm.1]; exact hcu) (by rw [← hrm.2]; exact hsu) h_call
      rw [← hrm.1] at hc1
      rw [← hrm.2] at hs1
      have hr := va_runV (C := (ab_Y m1).cls) (b := ab_loc G b) (As := (st.take n).reverse.map (ab_cv G)) (rest := rest.map (ab_cv G)) (n := ab_NP m1) (nL := ab_ML mi) (g := F0 m pc ls (st.map (ab_cv G))) (locs := locs) (e := e) (below := below) (meth := meth) (cells := cu) (slots := su) ⟨hx, hb, hml, hown, hts⟩ hCx
        ⟨callB_of (ab_NP m1) hts (ab_goodc hm) rfl rfl rfl (hts _ (ab_inim hm)) (hts _ (ab_wd_ok hw1)) (ab_hdm hm) ⟨by omega, by have := ab_mlm hm; show 8 + (ab_ML m1 + 11) + 100 * d ≤ _; omega⟩, hts _ (ab_wd_ok hw2), hts _ (ab_wd_ok hw3)⟩
        ⟨ab_blind, hrecv, fun U hU hW => ⟨rfl, ⟨⟨by rw [hU]; exact hR, hO.call hW (fun a h1 h2 => by rw [hU]; exact hS.2.1 a h1 h2)⟩, by rw [hU]; exact Nat.le_trans hbase hS.1⟩⟩⟩ rfl (by rw [List.length_map, List.length_reverse, hnp]; exact hn) hl.2.1
        (by
          show st.map (ab_cv G) = ((st.take n).reverse.map (ab_cv G)).reverse ++ .ref (ab_loc G b) :: rest.map (ab_cv G)
          rw [← List.map_reverse, List.reverse_reverse]
          conv => lhs; rw [hst]
          rw [List.map_append]
          rfl)
        (by show 2 * 0 + _ ≤ 8; rw [ab_sum]; omega) hd ⟨hc1, hs1⟩
      refine ab_ran hr hS (fun r sh1 rf1 mem1 nx1 H1 locs1 hk1 hR1 hS1 => ?_)
      have hgo := hP _ _ _ _ _ _ _ _ _ (hK2 r sh1 rf1 mem1 nx1 hk1) p e R s m args below meth c Q C1 hend H1 locs1 ls hR1 hS1 hl hc1 hs1
      have e9 : (r.toList ++ rest).map (ab_cv G) = (r.map (ab_cv G)).toList ++ rest.map (ab_cv G) := by cases r <;> rfl
      rw [e9] at hgo
      exact hgo
    · cases hi
  | invokestatic idx =>
    simp only [ab_okI, Bool.and_eq_true, decide_eq_true_eq] at hi
    obtain ⟨rfl, hi⟩ := hi
    split at hi
    · rename_i jl jn js
      simp only [Bool.and_eq_true] at hi
      obtain ⟨⟨hw1, hw2⟩, hw3⟩ := hi
      obtain ⟨n, dp, dd, sp, a, r, rfl, ⟨⟨hlt, hsh⟩, ⟨hltd, hshd⟩, h1, h2, h3, h4, h5⟩, h_1⟩ := ab_cp_sp h
      obtain ⟨h8, h_2⟩ := ab_ok8_sp h_1
      have el : ab_loc G a = G.1 + a := ab_loc_lt (Nat.lt_of_lt_of_le hlt hR.1)
      have eld : ab_loc G dd = G.1 + dd := ab_loc_lt (Nat.lt_of_lt_of_le hltd hR.1)
      have he : (ab_wsl G sh rf mem nx)[a]? = some (G.1 + a, .inl (G.2.2.2.1 10, (sh a).2, .inl (mem a))) := by rw [ab_wsl_at hlt, ab_ent_num hsh (by decide) (by decide)]
      have hed : (ab_wsl G sh rf mem nx)[dd]? = some (G.1 + dd, .inl (G.2.2.2.1 10, (sh dd).2, .inl (mem dd))) := by rw [ab_wsl_at hltd, ab_ent_num hshd (by decide) (by decide)]
      show W p l e R s m args below meth c H locs cu su Q (F0 m pc ls (.int n :: .int dp :: .ref (ab_loc G dd) :: .int sp :: .ref (ab_loc G a) :: r.map (ab_cv G)))
      rw [el, eld]
      refine ab_copy (tys := ab_tys G) hx hb (by rw [hml]; exact hl.2.1.symm) hown (hts _ (ab_wd_ok hw1)) (hts _ (ab_wd_ok hw2)) (hts _ (ab_wd_ok hw3)) (hts _ ab_iniS) hO.1 hR.2.2 ab_wsl_D hS a dd 0 he hed rfl h1 h2 h3 h4 h5 (by omega) (by
        rw [ab_sum]
        have : nativeFrameWords "java/lang/System" "arraycopy" 5 = 7 := by decide +kernel
        rw [this]
        omega) hd (fun H1 locs1 hp hz hs => ?_)
      rw [ab_wsl_set (rf' := rf) (mem' := ab_row mem dd (va_cpy (mem a) (mem dd) sp.toNatClampNeg dp.toNatClampNeg n.toNatClampNeg)) (by rw [ab_ent_num hshd (by decide) (by decide)]; simp [ab_row]) (fun b hb => ab_ent_row hb)] at hp
      exact goM _ _ _ _ H1 locs1 h_2 hz hp hs
    · rename_i t m1 n f kind jl js
      simp only [Bool.and_eq_true, decide_eq_true_eq] at hi
      obtain ⟨⟨⟨⟨hm, hn⟩, hf0⟩, hw1⟩, hw2⟩ := hi
      have h_1 : n ≤ st.length ∧ ab_call (ab_Cx l G ol d) bc bs t m1 f (st.take n).reverse (st.drop n) sh rf mem nx cu su (fun st sh rf mem nx cu su => P (pc + 3) L st sh rf mem nx cu su) := h
      obtain ⟨hlen, h_call⟩ := h_1
      obtain ⟨K, hCx, h8, hc1, hs1, hK2⟩ := ab_call_sp hf0 (by rw [← hrm.1]; exact hcu) (by rw [← hrm.2]; exact hsu) h_call
      rw [← hrm.1] at hc1
      rw [← hrm.2] at hs1
      generalize hrest : st.drop n = rest at *
      have hnp : (st.take n).length = n := by
        rw [List.length_take]
        exact Nat.min_eq_left hlen
      have hstk : st.map (ab_cv G) = ((st.take n).reverse.map (ab_cv G)).reverse ++ rest.map (ab_cv G) := by
        rw [← List.map_reverse, List.reverse_reverse, ← List.map_append, ← hrest, List.take_append_drop]
      have hr : va_Run p l e R s m args below meth c H locs cu su (ab_mc m1) (ab_ms m1) (F0 m pc ls (st.map (ab_cv G))) (rest.map (ab_cv G)) (ab_Q G K ((st.take n).reverse.map (ab_cv G)).toArray) (ab_A G) := by
        unfold ab_lk at hw1
        split at hw1
        · exact va_runS (As := (st.take n).reverse.map (ab_cv G)) (rest := rest.map (ab_cv G)) (n := ab_NP m1) (nL := ab_ML mi) (g := F0 m pc ls (st.map (ab_cv G))) ⟨hx, hb, hml, hown, hts⟩ hCx
            ⟨callB_of (ab_NP m1) hts (ab_goodc hm) rfl rfl rfl (hts _ (ab_inim hm)) (hts _ (ab_wd_ok hw1)) (ab_hdm hm) ⟨by omega, by have := ab_mlm hm; show 8 + (ab_ML m1 + 11) + 100 * d ≤ _; omega⟩, hts _ (ab_wd_ok hw2)⟩
            ⟨ab_blind, fun U hU hW => ⟨rfl, ⟨⟨by rw [hU]; exact hR, hO.call hW (fun a h1 h2 => by rw [hU]; exact hS.2.1 a h1 h2)⟩, by rw [hU]; exact Nat.le_trans hbase hS.1⟩⟩⟩ rfl (by rw [List.length_map, List.length_reverse, hnp]; exact hn) hl.2.1 hstk (by show 2 * 0 + _ ≤ 8; rw [ab_sum]; omega) hd ⟨hc1, hs1⟩
        · have hnest := of_decide_eq_true hw1
          have hq := hO.2.1 _ (List.mem_of_getElem? hnest)
          exact va_runSN (host := "RoundFigures") (As := (st.take n).reverse.map (ab_cv G)) (rest := rest.map (ab_cv G)) (n := ab_NP m1) (nL := ab_ML mi) (g := F0 m pc ls (st.map (ab_cv G))) ⟨hx, hb, hml, hown, hts⟩ hCx
            ⟨va_cnB (ab_NP m1) hts (ab_goodc hm) rfl rfl rfl hq (hts _ (ab_inim hm)) (ab_hdm hm) ⟨by omega, by have := ab_mlm hm; show 8 + (ab_ML m1 + 11) + 100 * d ≤ _; omega⟩, hts _ (ab_wd_ok hw2), trivial⟩
            ⟨ab_blind, fun U hU hW => ⟨rfl, ⟨⟨by rw [hU]; exact hR, hO.call hW (fun a h1 h2 => by rw [hU]; exact hS.2.1 a h1 h2)⟩, by rw [hU]; exact Nat.le_trans hbase hS.1⟩⟩⟩ rfl (by rw [List.length_map, List.length_reverse, hnp]; exact hn) hl.2.1 hstk (by show 2 * 0 + _ ≤ 8; rw [ab_sum]; omega) hd ⟨hc1, hs1⟩
      refine ab_ran hr hS (fun r sh1 rf1 mem1 nx1 H1 locs1 hk1 hR1 hS1 => ?_)
      have hgo := hP _ _ _ _ _ _ _ _ _ (hK2 r sh1 rf1 mem1 nx1 hk1) p e R s m args below meth c Q C1 hend H1 locs1 ls hR1 hS1 hl hc1 hs1
      have e9 : (r.toList ++ rest).map (ab_cv G) = (r.map (ab_cv G)).toList ++ rest.map (ab_cv G) := by cases r <;> rfl
      rw [e9] at hgo
      exact hgo
    · cases hi
  | invokespecial idx =>
    simp only [ab_okI, Bool.and_eq_true, decide_eq_true_eq] at hi
    obtain ⟨rfl, hi⟩ := hi
    split at hi
    · rename_i jl ji jc
      simp only [Bool.and_eq_true] at hi
      obtain ⟨⟨hw1, hw2⟩, hw3⟩ := hi
      obtain ⟨a, r, rfl, h_1⟩ := ab_r1_sp h
      obtain ⟨h8, h_2⟩ := ab_ok8_sp h_1
      exact W.objInit (a := ab_loc G a) (rest := r.map (ab_cv G)) hx hb hown (hts _ (ab_wd_ok hw1)) (hts _ (ab_wd_ok hw2)) (hts _ (ab_wd_ok hw3)) rfl (by rw [hml]; exact hl.2.1) rfl hd (by omega) (by show 2 * 0 + _ + 12 ≤ _; rw [ab_sum]; omega) (go _ _ h_2)
    · rename_i t m1 n f kind jl ji
      simp only [Bool.and_eq_true, decide_eq_true_eq] at hi
      obtain ⟨⟨⟨⟨⟨⟨hm, hn⟩, hf0⟩, hw1⟩, hw2⟩, hnm1⟩, hrt⟩ := hi
      have h_0 : ab_recv st n fun b as rest => ab_call (ab_Cx l G ol d) bc bs t m1 f as rest sh rf mem nx cu su (fun st sh rf mem nx cu su => P (pc + 3) L st sh rf mem nx cu su) := h
      obtain ⟨b, rest, hst, h_call⟩ := ab_recv_sp h_0
      have hnp : (st.take n).length = n := ab_take hst
      obtain ⟨K, hCx, h8, hc1, hs1, hK2⟩ := ab_call_sp hf0 (by rw [← hrm.1]; exact hcu) (by rw [← hrm.2]; exact hsu) h_call
      rw [← hrm.1] at hc1
      rw [← hrm.2] at hs1
      have hstk : st.map (ab_cv G) = ((st.take n).reverse.map (ab_cv G)).reverse ++ .ref (ab_loc G b) :: rest.map (ab_cv G) := by
        rw [← List.map_reverse, List.reverse_reverse]
        conv => lhs; rw [hst]
        rw [List.map_append]
        rfl
      have hr : va_Run p l e R s m args below meth c H locs cu su (ab_mc m1) (ab_ms m1) (F0 m pc ls (st.map (ab_cv G))) (rest.map (ab_cv G)) (ab_Q G K (.ref (ab_loc G b) :: (st.take n).reverse.map (ab_cv G)).toArray) (ab_A G) := by
        unfold ab_lk at hw1
        split at hw1
        · exact va_runI (b := ab_loc G b) (As := (st.take n).reverse.map (ab_cv G)) (rest := rest.map (ab_cv G)) (n := ab_NP m1) (nL := ab_ML mi) (g := F0 m pc ls (st.map (ab_cv G))) ⟨hx, hb, hml, hown, hts⟩ hCx
            ⟨by rw [← hrt]; exact callB_of (ab_NP m1) hts (ab_goodc hm) rfl rfl rfl (hts _ (ab_inim hm)) (hts _ (ab_wd_ok hw1)) (ab_hdm hm) ⟨by omega, by have := ab_mlm hm; show 8 + (ab_ML m1 + 11) + 100 * d ≤ _; omega⟩, hnm1, hts _ (ab_wd_ok hw2)⟩
            ⟨ab_blind, fun U hU hW => ⟨rfl, ⟨⟨by rw [hU]; exact hR, hO.call hW (fun a h1 h2 => by rw [hU]; exact hS.2.1 a h1 h2)⟩, by rw [hU]; exact Nat.le_trans hbase hS.1⟩⟩⟩ rfl (by rw [List.length_map, List.length_reverse, hnp]; exact hn) hl.2.1 hstk (by show 2 * 0 + _ ≤ 8; rw [ab_sum]; omega) hd ⟨hc1, hs1⟩
        · have hnest := of_decide_eq_true hw1
          have hq := hO.2.1 _ (List.mem_of_getElem? hnest)
          exact va_runIN (host := "RoundFigures") (b := ab_loc G b) (As := (st.take n).reverse.map (ab_cv G)) (rest := rest.map (ab_cv G)) (n := ab_NP m1) (nL := ab_ML mi) (g := F0 m pc ls (st.map (ab_cv G))) ⟨hx, hb, hml, hown, hts⟩ hCx
            ⟨by rw [← hrt]; exact va_cnB (ab_NP m1) hts (ab_goodc hm) rfl rfl rfl hq (hts _ (ab_inim hm)) (ab_hdm hm) ⟨by omega, by have := ab_mlm hm; show 8 + (ab_ML m1 + 11) + 100 * d ≤ _; omega⟩, hnm1, hts _ (ab_wd_ok hw2)⟩
            ⟨ab_blind, fun U hU hW => ⟨rfl, ⟨⟨by rw [hU]; exact hR, hO.call hW (fun a h1 h2 => by rw [hU]; exact hS.2.1 a h1 h2)⟩, by rw [hU]; exact Nat.le_trans hbase hS.1⟩⟩⟩ rfl (by rw [List.length_map, List.length_reverse, hnp]; exact hn) hl.2.1 hstk (by show 2 * 0 + _ ≤ 8; rw [ab_sum]; omega) hd ⟨hc1, hs1⟩
      refine ab_ran hr hS (fun r sh1 rf1 mem1 nx1 H1 locs1 hk1 hR1 hS1 => ?_)
      have hgo := hP _ _ _ _ _ _ _ _ _ (hK2 r sh1 rf1 mem1 nx1 hk1) p e R s m args below meth c Q C1 hend H1 locs1 ls hR1 hS1 hl hc1 hs1
      have e9 : (r.toList ++ rest).map (ab_cv G) = (r.map (ab_cv G)).toList ++ rest.map (ab_cv G) := by cases r <;> rfl
      rw [e9] at hgo
      exact hgo
    · cases hi
  | ireturn =>
    obtain ⟨b, o2, rfl, h_1⟩ := ab_o1_sp h
    obtain ⟨v, rfl, h_2⟩ := ab_ret1_sp h_1
    · obtain ⟨x, r, hst, hb1, h_3⟩ := ab_i1_sp h_2
      injection hst with hst1 hst2
      subst hst1
      simp only [ab_okI, Bool.and_eq_true, Bool.or_eq_true, decide_eq_true_eq] at hi; simp only [List.headD_cons] at hi
      obtain ⟨rfl, hi⟩ := hi
      refine hend pc .ireturn (some (.int x)) sh rf mem nx cu su H locs ls h_3 hd (Or.inl ⟨rfl, x, rfl, ?_⟩) hR hS hcu hsu
      rcases hi with ⟨rfl, hr⟩ | ⟨rfl, hr⟩
      · exact Or.inl hr
      · exact Or.inr ⟨hr, hb1⟩
  | lreturn =>
    obtain ⟨v, rfl, h_1⟩ := ab_ret1_sp h
    · obtain ⟨x, r, hst, h_2⟩ := ab_l1_sp h_1
      injection hst with hst1 hst2
      subst hst1
      simp only [ab_okI, Bool.and_eq_true, decide_eq_true_eq] at hi
      obtain ⟨rfl, hi⟩ := hi
      exact hend pc .lreturn (some (.long x)) sh rf mem nx cu su H locs ls h_2 hd (Or.inr (Or.inl ⟨rfl, hi, x, rfl⟩)) hR hS hcu hsu
  | areturn =>
    obtain ⟨v, rfl, h_1⟩ := ab_ret1_sp h
    · obtain ⟨x, r, hst, h_2⟩ := ab_r1_sp h_1
      injection hst with hst1 hst2
      subst hst1
      simp only [ab_okI, Bool.and_eq_true, decide_eq_true_eq] at hi
      obtain ⟨rfl, hi⟩ := hi
      exact hend pc .areturn (some (.ref x)) sh rf mem nx cu su H locs ls h_2 hd (Or.inr (Or.inr (Or.inl ⟨rfl, hi, x, rfl⟩))) hR hS hcu hsu
  | return_ =>
    simp only [ab_okI, Bool.and_eq_true, decide_eq_true_eq] at hi
    obtain ⟨rfl, hi⟩ := hi
    cases st with
    | nil => exact hend pc .return_ none sh rf mem nx cu su H locs ls h hd (Or.inr (Or.inr (Or.inr ⟨rfl, hi, rfl⟩))) hR hS hcu hsu
    | cons v r => exact h.elim
  | _ => exact h.elim
