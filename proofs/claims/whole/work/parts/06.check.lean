/-! THE SMALL MACHINE, part 3: what a program checks of each row of code, and that a step of the small machine is one of the machine -/
def ab_wd (j : Nat) (w : Cond) : Bool := decide (lw_tbl[j]? = some w) && goodWord w
theorem ab_wd_ok {j : Nat} {w : Cond} (h : ab_wd j w = true) : w ∈ ab_ws := by
  simp only [ab_wd, Bool.and_eq_true, decide_eq_true_eq] at h
  exact ab_ws_of h.1 h.2
/-- links to private members of a nest mate: class, entry, method -/
def ab_nest : List (String × Nat × Nat) := [("RoundFigures", 9, 0), ("RoundFigures$World", 51, 33), ("RoundFigures", 33, 3), ("RoundFigures", 77, 25), ("RoundFigures", 78, 30), ("RoundFigures$Slot", 20, 33), ("RoundFigures$Slot", 27, 25), ("RoundFigures$Laws", 21, 63), ("RoundFigures$World", 76, 68), ("RoundFigures$Row", 29, 63)]
/-- String constants: class, entry, text -/
def ab_strs : List (String × Nat × String) := [("RoundFigures$Reader", 66, "cost"), ("RoundFigures$Reader", 72, "fee"), ("RoundFigures$Reader", 74, "fine"), ("RoundFigures$Reader", 120, "nxd"), ("RoundFigures$Reader", 122, "pl"), ("RoundFigures$Reader", 124, "sc")]
def ab_cl (c : Nat) : vw_C := vwCl.getD c (RX0, TX0, 0)
def ab_T (c k : Nat) : String × String × String × Bool := (ab_cl c).2.1 k
def ab_ini (C : String) : Bool := lw_tbl.any (fun w => decide (w = Cond.initialized C) && goodWord w)
theorem ab_ini_ok {C : String} (h : ab_ini C = true) : Cond.initialized C ∈ ab_ws := by
  obtain ⟨w, hw, h1⟩ := List.any_eq_true.mp h
  simp only [Bool.and_eq_true, decide_eq_true_eq] at h1
  rw [← h1.1]
  exact List.mem_filter.mpr ⟨hw, h1.2⟩
/-- the links of a call: plain ones by their place among the words, a nest mate's by its place in ab_nest -/
def ab_lk (own : String) (idx m kind j : Nat) : Bool := match kind with
  | 0 => ab_wd j (.methodLink own idx (ab_Y m))
  | _ => decide (ab_nest[j]? = some (own, idx, m))
def ab_fl0 (m f : Nat) : Bool := match f with
  | 0 => decide (ab_mc m = 0) && decide (ab_ms m = 0)
  | _ => true
/-- what a program checks of an instruction: own class, method's name, its answer; where it stands, its length, what was made of its numbers -/
def ab_okI (own nm : String) (ret : Option FieldType) (pc : Nat) (i : Instr) (len : Nat) (o : List Nat) (vs : List Int32) : Bool := match i with
  | .iconst n => decide (len = 1) && decide (Int32.ofInt n = vs.headD 0)
  | .bipush n => decide (len = 2) && decide ((Int8.ofInt n).toInt32 = vs.headD 0)
  | .sipush n => decide (len = 3) && decide ((Int16.ofInt n).toInt32 = vs.headD 0)
  | .ldc_w idx => decide (len = 3) && ab_wd (o.headD 0) (.constant own idx (vs.headD 0))
  | .ldc idx => decide (len = 2) && (match vs with
    | v :: _ => ab_wd (o.headD 0) (.constant own idx v)
    | [] => decide (o.getD 1 0 < 6 ∧ (ab_strs.getD (o.getD 1 0) ("", 0, "")).1 = own ∧ (ab_strs.getD (o.getD 1 0) ("", 0, "")).2.1 = idx))
  | .lconst _ => decide (len = 1)
  | .iload i => decide (len = 2) && decide (i = o.headD 0)
  | .aload i => decide (len = 2) && decide (i = o.headD 0)
  | .lload i => decide (len = 2) && decide (i = o.headD 0)
  | .istore i => decide (len = 2) && decide (i = o.headD 0)
  | .astore i => decide (len = 2) && decide (i = o.headD 0)
  | .lstore i => decide (len = 2) && decide (i = o.headD 0)
  | .iload_n k => decide (len = 1) && decide (k.val = o.headD 0)
  | .aload_n k => decide (len = 1) && decide (k.val = o.headD 0)
  | .lload_n k => decide (len = 1) && decide (k.val = o.headD 0)
  | .istore_n k => decide (len = 1) && decide (k.val = o.headD 0)
  | .astore_n k => decide (len = 1) && decide (k.val = o.headD 0)
  | .lstore_n k => decide (len = 1) && decide (k.val = o.headD 0)
  | .iinc i n => decide (len = 3) && decide (i = o.headD 0) && decide (Int32.ofInt n = vs.headD 0)
  | .ifCond _ off => decide (len = 3) && decide ((pc : Int) + off = (o.headD 0 : Nat))
  | .if_icmp _ off => decide (len = 3) && decide ((pc : Int) + off = (o.headD 0 : Nat))
  | .ifnonnull off => decide (len = 3) && decide ((pc : Int) + off = (o.headD 0 : Nat))
  | .ifnull _ => decide (len = 3)
  | .goto off => decide (len = 3) && decide ((pc : Int) + off = (o.headD 0 : Nat))
  | .tableswitch d lo hi offs => decide ((pc : Int) + d = (o.headD 0 : Nat)) && decide (offs.toList.map (fun q => (pc : Int) + q) = o.tail.map (fun (t : Nat) => (t : Int))) && decide (vs.map (fun v => v.toInt) = (List.range offs.size).map (fun (k : Nat) => lo + (k : Int))) && decide (hi = lo + (offs.size : Int) - 1)
  | .lookupswitch d ps => decide ((pc : Int) + d = (o.headD 0 : Nat)) && decide (ps.toList.map (fun q => (pc : Int) + q.2) = o.tail.map (fun (t : Nat) => (t : Int))) && decide (vs.map (fun v => v.toInt) = ps.toList.map (fun q => q.1)) && (ps.toList.zip (ps.toList.drop 1)).all (fun (a, next) => a.1 < next.1)
  | .getfield idx => decide (len = 3) && decide (o.getD 2 0 < 10 ∧ o.getD 3 0 < ab_nf (o.getD 2 0)) && decide (o.headD 0 = ab_ft (o.getD 2 0) (o.getD 3 0)) && decide ((ab_T (o.getD 2 0) (o.getD 3 0)).1 = (ab_cl (o.getD 2 0)).1) && ab_wd (o.getD 1 0) (.fieldLink own idx (ab_cl (o.getD 2 0)).1 (ab_T (o.getD 2 0) (o.getD 3 0)).2.1 (ab_T (o.getD 2 0) (o.getD 3 0)).2.2.1)
  | .putfield idx => decide (len = 3) && decide (o.getD 2 0 < 10 ∧ o.getD 3 0 < ab_nf (o.getD 2 0)) && decide (o.headD 0 = ab_ft (o.getD 2 0) (o.getD 3 0)) && decide ((ab_T (o.getD 2 0) (o.getD 3 0)).1 = (ab_cl (o.getD 2 0)).1) && ab_wd (o.getD 1 0) (.fieldLink own idx (ab_cl (o.getD 2 0)).1 (ab_T (o.getD 2 0) (o.getD 3 0)).2.1 (ab_T (o.getD 2 0) (o.getD 3 0)).2.2.1) && (decide ((ab_T (o.getD 2 0) (o.getD 3 0)).2.2.2 = false) || decide (nm = "<init>" ∧ own = (ab_cl (o.getD 2 0)).1))
  | .getstatic idx => decide (len = 3) && decide (own = RX6 ∧ idx = 43)
  | .aaload => decide (len = 1) && decide (o.headD 0 = 23 ∨ o.headD 0 = 24 ∨ o.headD 0 = 25 ∨ o.headD 0 = 26)
  | .aastore => decide (len = 1) && decide (o.headD 0 = 23 ∨ o.headD 0 = 24 ∨ o.headD 0 = 25 ∨ o.headD 0 = 26) && decide (o.headD 0 = 20 + o.getD 1 0)
  | .arraylength => decide (len = 1) && decide (o = [] ∨ o = [10] ∨ o = [11] ∨ o = [12])
  | .new idx => decide (len = 3) && decide (o.headD 0 < 10) && ab_wd (o.getD 1 0) (.classLink own idx (ab_cl (o.headD 0)).1) && ab_wd (o.getD 2 0) (.instantiable (ab_cl (o.headD 0)).1 (ab_nf (o.headD 0))) && ab_ini (ab_cl (o.headD 0)).1
  | .newarray t => decide (len = 2) && decide ((t = .int ∧ o.headD 0 = 10) ∨ (t = .boolean ∧ o.headD 0 = 11) ∨ (t = .char ∧ o.headD 0 = 12)) && ab_wd (o.getD 1 0) (.arrayClass (newarray.typeOf t))
  | .anewarray idx => decide (len = 3) && decide (o.headD 0 = 3 ∨ o.headD 0 = 4 ∨ o.headD 0 = 5 ∨ o.headD 0 = 6) && ab_wd (o.getD 1 0) (.classLink own idx (ab_cl (o.headD 0)).1)
  | .invokevirtual idx => decide (len = 3) && decide (o.getD 1 0 < ab_nM) && decide (o.getD 2 0 = ab_NP (o.getD 1 0)) && ab_fl0 (o.getD 1 0) (o.getD 3 0) && (match o with
    | [_, m, _, _, c, jl, ji, js] => decide (c < 10 ∧ (ab_Y m).cls = (ab_cl c).1) && ab_wd jl (.methodLink own idx (ab_Y m)) && ab_wd ji (.instanceMethod (ab_Y m)) && ab_wd js (.selects (ab_Y m).cls (ab_Y m) (ab_Y m))
    | [_, m, _, _, jl, ji, js] => decide ((ab_Y m).cls = "java/lang/String") && ab_wd jl (.methodLink own idx (ab_Y m)) && ab_wd ji (.instanceMethod (ab_Y m)) && ab_wd js (.selects (ab_Y m).cls (ab_Y m) (ab_Y m))
    | _ => false)
  | .invokestatic idx => decide (len = 3) && (match o with
    | [jl, jn, js] => ab_wd jl (.methodLink own idx arraycopyName) && ab_wd jn (.native arraycopyName) && ab_wd js (.static arraycopyName)
    | [_, m, n, f, kind, jl, js] => decide (m < ab_nM) && decide (n = ab_NP m) && ab_fl0 m f && ab_lk own idx m kind jl && ab_wd js (.static (ab_Y m))
    | _ => false)
  | .invokespecial idx => decide (len = 3) && (match o with
    | [jl, ji, jc] => ab_wd jl (.methodLink own idx objectInit) && ab_wd ji (.instanceMethod objectInit) && ab_wd jc (.code objectInit ⟨#[0xb1]⟩ 1 none)
    | [_, m, n, f, kind, jl, ji] => decide (m < ab_nM) && decide (n = ab_NP m) && ab_fl0 m f && ab_lk own idx m kind jl && ab_wd ji (.instanceMethod (ab_Y m)) && decide ((ab_Y m).name = "<init>") && decide (ab_RT m = none)
    | _ => false)
  | .ireturn => decide (len = 1) && (decide (o.headD 0 = 0 ∧ ret = some .int) || decide (o.headD 0 = 1 ∧ ret = some .boolean))
  | .lreturn => decide (len = 1) && decide (ret = some .long)
  | .areturn => decide (len = 1) && decide (ret = some (.object RX5))
  | .return_ => decide (len = 1) && decide (ret = none)
  | _ => decide (len = 1)
def ab_okE (m : Nat) (e : ab_E) : Bool := decide (decode (ab_B m) e.1 = .ok (e.2.1, e.2.2.1)) && ab_okI (ab_Y m).cls (ab_Y m).name (ab_RT m) e.1 e.2.1 e.2.2.1 e.2.2.2.1 e.2.2.2.2
def ab_ok (m : Nat) (T : List ab_E) : Prop := T.all (ab_okE m) = true
theorem ab_uw0 : ∀ c, c < 10 → (u_ws (ab_cl c).1 (ab_cl c).2.1 (ab_cl c).2.2).all (fun w => decide (w ∈ lw_tbl) && goodWord w) = true := by decide +kernel
theorem ab_uw {c : Nat} (h : c < 10) : ∀ w ∈ u_ws (ab_cl c).1 (ab_cl c).2.1 (ab_cl c).2.2, w ∈ ab_ws := by
  intro w hw
  have h1 := List.all_eq_true.mp (ab_uw0 c h) w hw
  simp only [Bool.and_eq_true, decide_eq_true_eq] at h1
  exact List.mem_filter.mpr h1
theorem ab_cl_at {c : Nat} (h : c < 10) : vwCl[c]? = some ((ab_cl c).1, (ab_cl c).2.1, (ab_cl c).2.2) := by
  have : ∀ c, c < 10 → vwCl[c]? = some (ab_cl c) := by
    intro c h
    rcases (show c = 0 ∨ c = 1 ∨ c = 2 ∨ c = 3 ∨ c = 4 ∨ c = 5 ∨ c = 6 ∨ c = 7 ∨ c = 8 ∨ c = 9 by omega) with rfl | rfl | rfl | rfl | rfl | rfl | rfl | rfl | rfl | rfl <;> rfl
  exact this c h
theorem ab_cl_nf {c : Nat} (h : c < 10) : (ab_cl c).2.2 = ab_nf c := by
  rcases (show c = 0 ∨ c = 1 ∨ c = 2 ∨ c = 3 ∨ c = 4 ∨ c = 5 ∨ c = 6 ∨ c = 7 ∨ c = 8 ∨ c = 9 by omega) with rfl | rfl | rfl | rfl | rfl | rfl | rfl | rfl | rfl | rfl <;> rfl
def ab_ty (c k : Nat) : FieldType := (parseFieldDescriptor (ab_T c k).2.2.1).getD .int
theorem ab_ty_ok0 : ∀ c, c < 10 → (List.range (ab_cl c).2.2).all (fun k => (parseFieldDescriptor (ab_T c k).2.2.1).isSome && (match ab_ft c k with | 0 => decide (ab_ty c k = .int) | 2 => decide (ab_ty c k = .boolean) | _ => refKind (ab_ty c k))) = true := by decide +kernel
theorem ab_ty_ok {c : Nat} (hc : c < 10) : ∀ k, k < (ab_cl c).2.2 → parseFieldDescriptor (ab_T c k).2.2.1 = some (ab_ty c k) := by
  intro k hk
  have h := List.all_eq_true.mp (ab_ty_ok0 c hc) k (List.mem_range.mpr hk)
  simp only [Bool.and_eq_true] at h
  unfold ab_ty
  cases hp : parseFieldDescriptor (ab_T c k).2.2.1 with
  | none => rw [hp] at h; cases h.1
  | some t => rfl
theorem ab_ty_kind {c k : Nat} (hc : c < 10) (hk : k < ab_nf c) : (ab_ft c k = 0 → ab_ty c k = .int) ∧ (ab_ft c k = 2 → ab_ty c k = .boolean) ∧ (ab_ft c k = 1 → refKind (ab_ty c k) = true) := by
  have h := List.all_eq_true.mp (ab_ty_ok0 c hc) k (List.mem_range.mpr (by rw [ab_cl_nf hc]; exact hk))
  simp only [Bool.and_eq_true] at h
  have h := h.2
  refine ⟨fun q => ?_, fun q => ?_, fun q => ?_⟩
  · rw [q] at h; exact of_decide_eq_true h
  · rw [q] at h; exact of_decide_eq_true h
  · rw [q] at h; exact h
theorem ab_nm0 : ∀ c, c < 10 → (List.range (ab_cl c).2.2).all (fun a => (List.range (ab_cl c).2.2).all (fun b => decide (a = b) || decide ((ab_T c a).2.1 ≠ (ab_T c b).2.1))) = true := by decide +kernel
theorem ab_nm {c : Nat} (hc : c < 10) : ∀ a, a < (ab_cl c).2.2 → ∀ b, b < (ab_cl c).2.2 → a ≠ b → (ab_T c a).2.1 ≠ (ab_T c b).2.1 := by
  intro a ha b hb hne
  have h := List.all_eq_true.mp (List.all_eq_true.mp (ab_nm0 c hc) a (List.mem_range.mpr ha)) b (List.mem_range.mpr hb)
  simp only [Bool.or_eq_true, decide_eq_true_eq] at h
  rcases h with h | h
  · exact absurd h hne
  · exact h
