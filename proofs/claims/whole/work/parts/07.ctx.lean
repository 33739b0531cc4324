/-! THE SMALL MACHINE, part 4: what holds in a frame; a method's contract; one call -/
def ab_len : List Nat := [4, 3, 4, 3, 2, 2]
def ab_byt : List (List Int32) := [[99, 111, 115, 116], [102, 101, 101], [102, 105, 110, 101], [110, 120, 100], [112, 108], [115, 99]]
/-- what was there before the law, and what the tables say beside the words -/
def ab_O (G : ab_G) (ol : ab_Ol) (U : State) : Prop :=
  va_K (ab_D G) vwCl (ab_tys G) U ∧ (∀ q ∈ ab_nest, va_Nw (.methodLinkNest q.1 q.2.1 (ab_Y q.2.2) "RoundFigures") U) ∧ va_Nw (.fieldLinkNest RX6 43 "RoundFigures" "KIND_ABOVE" "[I" "RoundFigures") U ∧ (∀ c, c = 3 ∨ c = 4 ∨ c = 5 ∨ c = 6 → va_AO (ab_cl c).1 U) ∧
  (∀ k, k < 2 → va_T .int (G.2.2.2.2 k) (ol k).1 (fun j => .int ((ol k).2 j)) (ab_A G) U U.heap) ∧ va_Z "RoundFigures" "KIND_ABOVE" "[I" (.ref (G.2.2.2.2 1)) (ab_A G) U U.heap ∧
  vk_S 6 ab_len ab_byt (fun i => G.2.2.2.2 (2 + i)) (fun i => G.2.2.2.2 (8 + i)) (ab_A G) U U.heap ∧ (∀ i, i < 6 → vk_R (ab_strs.getD i ("", 0, "")).1 (ab_strs.getD i ("", 0, "")).2.1 (ab_strs.getD i ("", 0, "")).2.2 (G.2.2.2.2 (2 + i)) U) ∧
  va_Z "java/lang/String" "COMPACT_STRINGS" "Z" (.int 1) (ab_A G) U U.heap ∧ va_Zq "jdk/internal/util/Preconditions" "SIOOBE_FORMATTER" "Ljava/util/function/BiFunction;" (ab_A G) U U.heap
theorem ab_O.call {G : ab_G} {ol : ab_Ol} {s U : State} (h : ab_O G ol s) (hW : s.WarmedH U.vm) (hq : ∀ a : Nat, a < s.heap.size → ¬ ab_A G a → U.heap[a]? = s.heap[a]?) : ab_O G ol U := by
  obtain ⟨h1, h2, h3, h4, h5, h6, h7, h8, h9, h10⟩ := h
  exact ⟨h1.moved hW.alike, fun q hq => va_Nw.warmM hW (h2 q hq), va_Nw.warmF hW h3, fun c hc => (h4 c hc).moved hW.alike, fun k hk => ((h5 k hk).moved hW.alike).kept hq, (h6.moved hW.alike).kept hq, (h7.moved hW.alike).kept hq, fun i hi => (h8 i hi).warm hW, (h9.moved hW.alike).kept hq, (h10.moved hW.alike).kept hq⟩
theorem ab_O.same {G : ab_G} {ol : ab_Ol} {U V : State} (h : ab_O G ol U) (hv : V.vm = U.vm) (hh : V.heap = U.heap) : ab_O G ol V := by
  obtain ⟨h1, h2, h3, h4, h5, h6, h7, h8, h9, h10⟩ := h
  have ha : U.vm.Alike V.vm := by rw [hv]; exact Vm.Alike.refl U.vm
  have hq : ∀ a : Nat, a < U.heap.size → ¬ ab_A G a → V.heap[a]? = U.heap[a]? := fun a _ _ => by rw [hh]
  exact ⟨h1.moved ha, fun q hq => va_Nw.same rfl hv.symm (h2 q hq), va_Nw.same rfl hv.symm h3, fun c hc => (h4 c hc).moved ha, fun k hk => ((h5 k hk).moved ha).kept hq, (h6.moved ha).kept hq, (h7.moved ha).kept hq, fun i hi => (h8 i hi).same hv, (h9.moved ha).kept hq, (h10.moved ha).kept hq⟩
/-- a method's end: an answer, a heap of the small machine, nothing old written -/
def ab_Q (G : ab_G) (K : ab_K) : Array Value → State → Outcome → State → Prop := fun _ st oc t => (∃ r sh rf mem nx, oc = .returned (r.map (ab_cv G)) ∧ ab_HR G sh rf mem nx t.heap ∧ K r sh rf mem nx) ∧ va_F (ab_A G) st t
/-- the contract of method m with d frames of room: from this heap of the small machine, with these arguments, it ends with K -/
def ab_Cx (l : Launch) (G : ab_G) (ol : ab_Ol) (d : Nat) : ab_Cl := fun m as sh rf mem nx K =>
  Met l (ab_Y m) (Cond.code (ab_Y m) (ab_B m) (ab_ML m) (ab_RT m) :: ab_ws) { frames := d, cells := ab_mc m, slots := ab_ms m, locals := 100 * d } (va_Pc (as.map (ab_cv G)) (fun U => (ab_HR G sh rf mem nx U.heap ∧ ab_O G ol U) ∧ G.1 ≤ U.heap.size)) (ab_Q G K) (ab_mc m) (ab_ms m) (ab_A G)
/-- what holds of a frame of method mi, with d frames of room for its calls -/
def ab_C (G : ab_G) (ol : ab_Ol) (d mi bc bs : Nat) (p : Program) (R : Room) (s : State) (m : MethodId) (args : Array Value) (meth : Method) (c : Code) : Prop :=
  p.tables.exec = Jvm.exec ∧ c.code = ab_B mi ∧ c.maxLocals = ab_ML mi ∧ s.vm.findClass (ab_Y mi).cls = some m.cls ∧ (∀ w ∈ ab_ws, w.before args s = true) ∧ ab_O G ol s ∧ G.1 ≤ s.heap.size ∧ d + 1 ≤ R.frames ∧ 100 * (d + 1) ≤ R.locals ∧ (R.cells = bc ∧ R.slots = bs) ∧ meth.name = (ab_Y mi).name
def ab_W (G : ab_G) (mi : Nat) (p : Program) (l : Launch) (e : Env) (R : Room) (s : State) (m : MethodId) (args : Array Value) (below : List Frame) (meth : Method) (c : Code) (Q : State → Prop) : ab_P := fun pc L st sh rf mem nx cu su =>
  ∀ (H : Heap) (locs : List Loc) (ls : Array Slot), ab_HR G sh rf mem nx H → va_S (ab_A G) s.heap H locs → ab_lv G ls (ab_ML mi) L → cu ≤ R.cells → su ≤ R.slots → W p l e R s m args below meth c H locs cu su Q (F0 m pc ls (st.map (ab_cv G)))
/-- how a method may end here: a return instruction with its answer -/
def ab_rk (i : Instr) (r : Option Value) (ret : Option FieldType) : Prop := (i = .ireturn ∧ ∃ x, r = some (.int x) ∧ (ret = some .int ∨ (ret = some .boolean ∧ (x = 0 ∨ x = 1)))) ∨ (i = .lreturn ∧ ret = some .long ∧ ∃ x, r = some (.long x)) ∨ (i = .areturn ∧ ret = some (.object RX5) ∧ ∃ x, r = some (.ref x)) ∨ (i = .return_ ∧ ret = none ∧ r = none)
def ab_end (G : ab_G) (mi : Nat) (Rt : ab_Rt) (p : Program) (l : Launch) (e : Env) (R : Room) (s : State) (m : MethodId) (args : Array Value) (below : List Frame) (meth : Method) (c : Code) (Q : State → Prop) : Prop :=
  ∀ (pc : Nat) (i : Instr) (r : Option Value) (sh : ab_S) (rf : ab_R) (mem : ab_N) (nx cu su : Nat) (H : Heap) (locs : List Loc) (ls : Array Slot), Rt r sh rf mem nx cu su → decode (ab_B mi) pc = .ok (i, 1) → ab_rk i r (ab_RT mi) → ab_HR G sh rf mem nx H → va_S (ab_A G) s.heap H locs → cu ≤ R.cells → su ≤ R.slots → W p l e R s m args below meth c H locs cu su Q (F0 m pc ls ((r.map (ab_cv G)).toList))
/-- from here the method comes to an end with Rt, in every frame of it -/
def ab_Go (l : Launch) (G : ab_G) (ol : ab_Ol) (d mi bc bs : Nat) (Rt : ab_Rt) : ab_P := fun pc L st sh rf mem nx cu su =>
  ∀ (p : Program) (e : Env) (R : Room) (s : State) (m : MethodId) (args : Array Value) (below : List Frame) (meth : Method) (c : Code) (Q : State → Prop), ab_C G ol d mi bc bs p R s m args meth c → ab_end G mi Rt p l e R s m args below meth c Q → ab_W G mi p l e R s m args below meth c Q pc L st sh rf mem nx cu su
/-- the locals at a method's entry -/
def ab_l0 (as : List Value) (n : Nat) : List Value := as ++ List.replicate (n - as.length) (.retAddr 0)
theorem ab_args1 : ∀ (vs : List Value) (i : Nat), vs.all (fun v => v.category == 1) = true → ∀ (k : Nat) (v : Value), vs[k]? = some v → (i + k, v) ∈ lv_args i vs
  | [], _, _, k, v, h => by simp at h
  | u :: us, i, ha, k, v, h => by
    simp only [List.all_cons, Bool.and_eq_true, beq_iff_eq] at ha
    unfold lv_args
    cases k with
    | zero =>
      simp at h
      subst h
      exact List.mem_cons_self
    | succ k =>
      have hu : ¬ u.category = 2 := by rw [ha.1]; decide
      rw [if_neg hu]
      have := ab_args1 us (i + 1) ha.2 k v (by simpa using h)
      rw [show i + (k + 1) = i + 1 + k by omega]
      exact List.mem_cons_of_mem _ this
theorem ab_sl1 : ∀ (vs : List Value), vs.all (fun v => v.category == 1) = true → (lg_sl vs).length = vs.length
  | [], _ => rfl
  | u :: us, ha => by
    simp only [List.all_cons, Bool.and_eq_true, beq_iff_eq] at ha
    have hu : ¬ u.category = 2 := by rw [ha.1]; decide
    have ih := ab_sl1 us ha.2
    simp only [lg_sl, List.flatMap_cons, if_neg hu] at ih ⊢
    simp [ih]
theorem ab_lv0 {G : ab_G} {as : List Value} {n : Nat} (ha : as.all (fun v => v.category == 1) = true) (hn : as.length ≤ n) : ab_lv G ((lg_sl (as.map (ab_cv G)) ++ List.replicate (n - (lg_sl (as.map (ab_cv G))).length) Slot.unset).toArray) n (ab_l0 as n) := by
  have ha' : (as.map (ab_cv G)).all (fun v => v.category == 1) = true := by
    rw [List.all_map]
    rw [← ha]
    congr 1
    funext v
    simp [ab_cat]
  have hl : (lg_sl (as.map (ab_cv G))).length = as.length := by rw [ab_sl1 _ ha']; simp
  have h := lv_entry (as.map (ab_cv G)) (n := n) (by rw [hl]; exact hn)
  refine ⟨by simp [ab_l0]; omega, h.1, h.2.1, fun q hq => ?_⟩
  obtain ⟨v, h1, h2, h3, h4⟩ := ab_al_mem.mp hq
  unfold ab_l0 at h2
  rw [List.getElem?_append] at h2
  split at h2
  · have := ab_args1 (as.map (ab_cv G)) 0 ha' q.1 (ab_cv G v) (by rw [List.getElem?_map, h2]; rfl)
    rw [Nat.zero_add, ← h4] at this
    exact h.2.2 q this
  · rw [List.getElem?_replicate] at h2
    split at h2
    · cases h2
      simp [ab_kn] at h3
    · cases h2
/-- a method's contract out of its walk in the small machine -/
theorem ab_enter {l : Launch} {G : ab_G} {ol : ab_Ol} {d m : Nat} {as : List Value} {sh : ab_S} {rf : ab_R} {mem : ab_N} {nx : Nat} {K : ab_K} (hm : m < ab_nM) (ha : as.all (fun v => v.category == 1) = true) (hn : as.length ≤ ab_ML m)
    (h : ab_Go l G ol d m (ab_mc m) (ab_ms m) (fun r sh rf mem nx _ _ => K r sh rf mem nx) 0 (ab_l0 as (ab_ML m)) [] sh rf mem nx 0 0) : ab_Cx l G ol (d + 1) m as sh rf mem nx K := by
  have hk := ab_mok_at hm
  simp only [ab_mok, Bool.and_eq_true, decide_eq_true_eq] at hk
  refine va_MetF (cc := ab_B m) (maxL := ab_ML m) (ret := ab_RT m) hk.1.1.1 rfl ?_
  intro p e s mid args below meth c s₁ B hml hv
  obtain ⟨rfl, ⟨hR, hO⟩, hz⟩ := hv
  have hts := atoms_spec (ws := Cond.code (ab_Y m) (ab_B m) (ab_ML m) (ab_RT m) :: ab_ws) B.pre
  rw [lg_entry_eq]
  refine h p e _ s mid _ below meth c _ ⟨B.exec, B.bytes, hml, findClass_of_methodNamed B.named, fun w hw => hts w (List.mem_cons_of_mem _ hw), hO, hz, Nat.le_refl _, Nat.le_refl _, ⟨rfl, rfl⟩, (name_of_methodNamed B.named B.method).1⟩ ?_ s.heap [] _ hR va_S.rf (ab_lv0 ha hn) (Nat.zero_le _) (Nat.zero_le _)
  intro pc i r sh rf mem nx cu su H locs ls hK hd hrk hR hS hcu hsu
  have hx := B.exec
  have hb := B.bytes
  have hr := B.returns
  have hlocks := B.notSynchronized
  have hq : ∀ t : State, t.heap = H → s.WarmedH t.vm → ab_Q G K (as.map (ab_cv G)).toArray s (.returned (r.map (ab_cv G))) t := fun t ht _ => ⟨⟨r, sh, rf, mem, nx, rfl, by rw [ht]; exact hR, hK⟩, hS.F ht⟩
  refine W.widen (k := ab_mc m) (n := ab_ms m) hcu hsu ?_
  rcases hrk with ⟨rfl, x, rfl, hx1 | ⟨hx1, hx2⟩⟩ | ⟨rfl, h1, x, rfl⟩ | ⟨rfl, h1, x, rfl⟩ | ⟨rfl, h1, rfl⟩
  · exact W.iret hx hb (by rw [hr]; exact hx1) hq hS.2.2 hd
  · refine W.zret hx hb (by rw [hr]; exact hx1) ?_ hq hS.2.2 hd
    rcases hx2 with rfl | rfl <;> decide +kernel
  · exact W.lret hx hb (by rw [hr]; exact h1) hq hS.2.2 hd
  · exact W.aret hx hb (by rw [hr]; exact h1) (Or.inl ⟨_, rfl⟩) (Or.inr ⟨_, rfl⟩) hq hS.2.2 hd
  · exact W.vret hx hb (by rw [hr]; exact h1) hq hS.2.2 hd
