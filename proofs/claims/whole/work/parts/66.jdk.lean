/-! THE JDK'S STRINGS: contracts over the kit, in the small machine's words -/
def jx (l : Launch) (G : ab_G) (ol : ab_Ol) (d : Nat) (y : MethodName) (B : ByteArray) (ML : Nat) (RT : Option FieldType) (as : List Value) (sh : ab_S) (rf : ab_R) (mem : ab_N) (nx : Nat) (K : ab_K) : Prop :=
  Met l y (Cond.code y B ML RT :: ab_ws) { frames := d, cells := 0, slots := 0, locals := 100 * d } (va_Pc as (fun U => (ab_HR G sh rf mem nx U.heap ∧ ab_O G ol U) ∧ G.1 ≤ U.heap.size)) (ab_Q G K) 0 0 (ab_A G)
def jv (v : Option Value) (sh : ab_S) (rf : ab_R) (mem : ab_N) (nx : Nat) : ab_K := fun r sh1 rf1 mem1 nx1 => r = v ∧ sh1 = sh ∧ rf1 = rf ∧ mem1 = mem ∧ nx1 = nx
def jC (G : ab_G) (ol : ab_Ol) (d : Nat) (own : String) (B : ByteArray) (ML : Nat) (p : Program) (R : Room) (s : State) (m : MethodId) (args : Array Value) (c : Code) : Prop :=
  (p.tables.exec = Jvm.exec ∧ c.code = B ∧ c.maxLocals = ML ∧ s.vm.findClass own = some m.cls ∧ ∀ w ∈ ab_ws, w.before args s = true) ∧ ab_O G ol s ∧ G.1 ≤ s.heap.size ∧ d ≤ R.frames ∧ 100 * d ≤ R.locals
theorem inw {w : Cond} (h : (decide (w ∈ lw_tbl) && goodWord w) = true) : w ∈ ab_ws := by
  simp only [Bool.and_eq_true, decide_eq_true_eq] at h
  exact List.mem_filter.mpr h
section JX
variable {l : Launch} {G : ab_G} {ol : ab_Ol} {d : Nat} {sh : ab_S} {rf : ab_R} {mem : ab_N} {nx : Nat} {K : ab_K}
theorem jx_enter {y : MethodName} {B : ByteArray} {ML : Nat} {ty : FieldType} {as : List Value} {w : Int32} (hy : plainFor y = true) (hn : (lg_sl as).length ≤ ML) (hw : narrow ty (.int w) = .int w) (hK : K (some (.int w)) sh rf mem nx)
    (body : ∀ (p : Program) (e : Env) (R : Room) (s : State) (m : MethodId) (args : Array Value) (below : List Frame) (meth : Method) (c : Code) (Q : State → Prop), jC G ol (d + 1) y.cls B ML p R s m args c → ab_HR G sh rf mem nx s.heap → (∀ (H : Heap) (locs : List Loc) (ls : Array Slot) (pc : Nat), ab_HR G sh rf mem nx H → va_S (ab_A G) s.heap H locs → decode B pc = .ok (.ireturn, 1) → W p l e R s m args below meth c H locs 0 0 Q (F0 m pc ls [.int w])) → ∀ ls : Array Slot, lv_has ls ML (lv_args 0 as) → W p l e R s m args below meth c s.heap [] 0 0 Q (F0 m 0 ls [])) : jx l G ol (d + 1) y B ML (some ty) as sh rf mem nx K := by
  refine va_MetF (cc := B) (maxL := ML) (ret := some ty) hy rfl ?_
  intro p e s mid args below meth c s₁ Bd hml hv
  obtain ⟨rfl, ⟨hR, hO⟩, hz⟩ := hv
  have hts := atoms_spec (ws := Cond.code y B ML (some ty) :: ab_ws) Bd.pre
  rw [lg_entry_eq]
  refine body p e _ s mid _ below meth c _ ⟨⟨Bd.exec, Bd.bytes, hml, findClass_of_methodNamed Bd.named, fun w hw => hts w (List.mem_cons_of_mem _ hw)⟩, hO, hz, Nat.le_refl _, Nat.le_refl _⟩ hR ?_ _ (lv_entry as hn)
  intro H locs ls pc hR1 hS hd
  have hx := Bd.exec
  have hb := Bd.bytes
  have hr := Bd.returns
  have hlocks := Bd.notSynchronized
  exact W.zret hx hb hr hw (fun t ht _ => ⟨⟨some (.int w), sh, rf, mem, nx, rfl, by rw [ht]; exact hR1, hK⟩, hS.F ht⟩) hS.2.2 hd
theorem jx_enterV {y : MethodName} {B : ByteArray} {ML : Nat} {as : List Value} (hy : plainFor y = true) (hn : (lg_sl as).length ≤ ML) (hK : K none sh rf mem nx)
    (body : ∀ (p : Program) (e : Env) (R : Room) (s : State) (m : MethodId) (args : Array Value) (below : List Frame) (meth : Method) (c : Code) (Q : State → Prop), jC G ol (d + 1) y.cls B ML p R s m args c → ab_HR G sh rf mem nx s.heap → (∀ (H : Heap) (locs : List Loc) (ls : Array Slot) (pc : Nat), ab_HR G sh rf mem nx H → va_S (ab_A G) s.heap H locs → decode B pc = .ok (.return_, 1) → W p l e R s m args below meth c H locs 0 0 Q (F0 m pc ls [])) → ∀ ls : Array Slot, lv_has ls ML (lv_args 0 as) → W p l e R s m args below meth c s.heap [] 0 0 Q (F0 m 0 ls [])) : jx l G ol (d + 1) y B ML none as sh rf mem nx K := by
  refine va_MetF (cc := B) (maxL := ML) (ret := none) hy rfl ?_
  intro p e s mid args below meth c s₁ Bd hml hv
  obtain ⟨rfl, ⟨hR, hO⟩, hz⟩ := hv
  have hts := atoms_spec (ws := Cond.code y B ML none :: ab_ws) Bd.pre
  rw [lg_entry_eq]
  refine body p e _ s mid _ below meth c _ ⟨⟨Bd.exec, Bd.bytes, hml, findClass_of_methodNamed Bd.named, fun w hw => hts w (List.mem_cons_of_mem _ hw)⟩, hO, hz, Nat.le_refl _, Nat.le_refl _⟩ hR ?_ _ (lv_entry as hn)
  intro H locs ls pc hR1 hS hd
  have hx := Bd.exec
  have hb := Bd.bytes
  have hr := Bd.returns
  have hlocks := Bd.notSynchronized
  exact W.vret hx hb hr (fun t ht _ => ⟨⟨none, sh, rf, mem, nx, rfl, by rw [ht]; exact hR1, hK⟩, hS.F ht⟩) hS.2.2 hd
section JK
variable {p : Program} {e : Env} {R : Room} {s : State} {m : MethodId} {args : Array Value} {below : List Frame} {meth : Method} {c : Code} {Q : State → Prop} {H : Heap} {locs : List Loc} {ls : Array Slot} {pc : Nat} {rest : List Value}
theorem jx_good {y : MethodName} {B : ByteArray} {ML : Nat} {RT : Option FieldType} (hc : Cond.code y B ML RT ∈ ab_ws) : GoodIn ab_ws (Cond.code y B ML RT :: ab_ws) := by
  intro w hw
  rcases List.mem_cons.mp hw with rfl | h
  · exact ab_ws_good _ hc
  · exact ab_ws_good _ h
theorem jx_callS {own : String} {B0 B : ByteArray} {ML0 ML d0 idx n : Nat} {y : MethodName} {RT : Option FieldType} {As : List Value} {v : Option Value} (X : jC G ol d own B0 ML0 p R s m args c) (hM : jx l G ol d0 y B ML RT As sh rf mem nx (jv v sh rf mem nx)) (hd0 : d0 < d) (hML : ML ≤ 60) (hc : Cond.code y B ML RT ∈ ab_ws) (hi : Cond.initialized y.cls ∈ ab_ws) (hl : Cond.methodLink own idx y ∈ ab_ws) (hs : Cond.static y ∈ ab_ws) (hy : y.cls ≠ "java/lang/invoke/MethodHandle" ∧ y.cls ≠ "java/lang/invoke/VarHandle" ∧ (parseMethodDescriptor y.desc).map (fun d => d.parameters.length) = some n) (hn : As.length = n) (hls : ls.size = ML0) (hsum : (rest.map fun v => v.category).sum ≤ 8) (hR : ab_HR G sh rf mem nx H) (hS : va_S (ab_A G) s.heap H locs) (hdg : decode B0 pc = .ok (.invokestatic idx, 3))
    (kk : ∀ (H1 : Heap) (locs1 : List Loc), ab_HR G sh rf mem nx H1 → va_S (ab_A G) s.heap H1 locs1 → W p l e R s m args below meth c H1 locs1 0 0 Q (F0 m (pc + 3) ls ((v.map (ab_cv G)).toList ++ rest))) : W p l e R s m args below meth c H locs 0 0 Q (F0 m pc ls (As.reverse ++ rest)) := by
  obtain ⟨F, hO, hz, hfr, hlo⟩ := X
  have hts := F.2.2.2.2
  have hr := va_runS (As := As) (rest := rest) (n := n) (nL := ML0) (g := F0 m pc ls (As.reverse ++ rest)) (locs := locs) (e := e) (below := below) (meth := meth) (cells := 0) (slots := 0) F hM
    ⟨callB_of n hts (jx_good hc) rfl rfl rfl (hts _ hi) (hts _ hl) hy ⟨by show d0 + 1 ≤ R.frames; omega, by show 8 + (ML + 11) + 100 * d0 ≤ R.locals; omega⟩, hts _ hs⟩
    ⟨ab_blind, fun U hU hW => ⟨rfl, ⟨⟨by rw [hU]; exact hR, hO.call hW (fun a h1 h2 => by rw [hU]; exact hS.2.1 a h1 h2)⟩, by rw [hU]; exact Nat.le_trans hz hS.1⟩⟩⟩ rfl hn hls rfl (by show 2 * 0 + _ ≤ 8; omega) hdg ⟨Nat.zero_le _, Nat.zero_le _⟩
  refine ab_ran hr hS (fun r sh1 rf1 mem1 nx1 H1 locs1 hk1 hR1 hS1 => ?_)
  obtain ⟨rfl, rfl, rfl, rfl, rfl⟩ := hk1
  exact kk H1 locs1 hR1 hS1
theorem jx_callV {own : String} {B0 B : ByteArray} {ML0 ML d0 idx n i : Nat} {y : MethodName} {RT : Option FieldType} {As : List Value} {v : Option Value} (X : jC G ol d own B0 ML0 p R s m args c) (hi6 : i < 6) (hcls : y.cls = "java/lang/String") (hM : jx l G ol d0 y B ML RT (.ref (G.2.2.2.2 (2 + i)) :: As) sh rf mem nx (jv v sh rf mem nx)) (hd0 : d0 < d) (hML : ML ≤ 60) (hc : Cond.code y B ML RT ∈ ab_ws) (hi : Cond.initialized y.cls ∈ ab_ws) (hl : Cond.methodLink own idx y ∈ ab_ws) (hs1 : Cond.instanceMethod y ∈ ab_ws) (hs2 : Cond.selects y.cls y y ∈ ab_ws) (hy : y.cls ≠ "java/lang/invoke/MethodHandle" ∧ y.cls ≠ "java/lang/invoke/VarHandle" ∧ (parseMethodDescriptor y.desc).map (fun d => d.parameters.length) = some n) (hn : As.length = n) (hls : ls.size = ML0) (hsum : (rest.map fun v => v.category).sum ≤ 8) (hR : ab_HR G sh rf mem nx H) (hS : va_S (ab_A G) s.heap H locs) (hdg : decode B0 pc = .ok (.invokevirtual idx, 3))
    (kk : ∀ (H1 : Heap) (locs1 : List Loc), ab_HR G sh rf mem nx H1 → va_S (ab_A G) s.heap H1 locs1 → W p l e R s m args below meth c H1 locs1 0 0 Q (F0 m (pc + 3) ls ((v.map (ab_cv G)).toList ++ rest))) : W p l e R s m args below meth c H locs 0 0 Q (F0 m pc ls (As.reverse ++ .ref (G.2.2.2.2 (2 + i)) :: rest)) := by
  obtain ⟨F, hO, hz, hfr, hlo⟩ := X
  have hts := F.2.2.2.2
  have hrecv : ∃ cellB : Cell, H[G.2.2.2.2 (2 + i)]? = some cellB ∧ cellB.vm.isStatics = false ∧ s.vm.findClass y.cls = some cellB.cls := by
    rw [hcls]
    exact vk_recv (adK := fun i => G.2.2.2.2 (2 + i)) (i := i) hO.2.2.2.2.2.2.1 hi6 hS
  have hr := va_runV (C := y.cls) (b := G.2.2.2.2 (2 + i)) (As := As) (rest := rest) (n := n) (nL := ML0) (g := F0 m pc ls (As.reverse ++ .ref (G.2.2.2.2 (2 + i)) :: rest)) (locs := locs) (e := e) (below := below) (meth := meth) (cells := 0) (slots := 0) F hM
    ⟨callB_of n hts (jx_good hc) rfl rfl rfl (hts _ hi) (hts _ hl) hy ⟨by show d0 + 1 ≤ R.frames; omega, by show 8 + (ML + 11) + 100 * d0 ≤ R.locals; omega⟩, hts _ hs1, hts _ hs2⟩
    ⟨ab_blind, hrecv, fun U hU hW => ⟨rfl, ⟨⟨by rw [hU]; exact hR, hO.call hW (fun a h1 h2 => by rw [hU]; exact hS.2.1 a h1 h2)⟩, by rw [hU]; exact Nat.le_trans hz hS.1⟩⟩⟩ rfl hn hls rfl (by show 2 * 0 + _ ≤ 8; omega) hdg ⟨Nat.zero_le _, Nat.zero_le _⟩
  refine ab_ran hr hS (fun r sh1 rf1 mem1 nx1 H1 locs1 hk1 hR1 hS1 => ?_)
  obtain ⟨rfl, rfl, rfl, rfl, rfl⟩ := hk1
  exact kk H1 locs1 hR1 hS1
end JK
abbrev yCoder : MethodName := ⟨"java/lang/String", "coder", "()B"⟩
abbrev yLatin : MethodName := ⟨"java/lang/String", "isLatin1", "()Z"⟩
theorem jwC : Cond.fieldLink "java/lang/String" 38 "java/lang/String" "COMPACT_STRINGS" "Z" ∈ ab_ws := inw (by decide +kernel)
theorem jwO : Cond.fieldLink "java/lang/String" 15 "java/lang/String" "coder" "B" ∈ ab_ws := inw (by decide +kernel)
theorem jwV : Cond.fieldLink "java/lang/String" 9 "java/lang/String" "value" "[B" ∈ ab_ws := inw (by decide +kernel)
theorem jwS : Cond.initialized "java/lang/String" ∈ ab_ws := inw (by decide +kernel)
theorem jwL : Cond.initialized "java/lang/StringLatin1" ∈ ab_ws := inw (by decide +kernel)
theorem jwP : Cond.initialized "jdk/internal/util/Preconditions" ∈ ab_ws := inw (by decide +kernel)
theorem jwM : Cond.initialized "java/lang/Math" ∈ ab_ws := inw (by decide +kernel)
theorem j_coder {i : Nat} (hi : i < 6) (hK : K (some (.int 0)) sh rf mem nx) : jx l G ol (d + 1) yCoder prog_14_method_152_code 1 (some .byte) [.ref (G.2.2.2.2 (2 + i))] sh rf mem nx K := by
  refine jx_enter (by decide +kernel) (Nat.le_of_ble_eq_true rfl) (by decide +kernel) hK ?_
  intro p e R s m args below meth c Q X hR fin ls hl
  have hl : lv_has ls 1 [(0, .ref (G.2.2.2.2 (2 + i)))] := hl
  obtain ⟨⟨hx, hb, hml, hown, hts⟩, hO, hz, hfr, hlo⟩ := X
  refine va_gets hx hb hO.2.2.2.2.2.2.2.2.1 va_S.rf hown (hts _ jwC) (fun x h => h) (by decide +kernel) ?_
  refine lv_if_eq (off := 10) (tgt := 13) hx hb (by decide +kernel) (by decide) (fun q => absurd q (by decide)) (fun _ => ?_)
  refine lv_aload_n (k := 0) hx hb (by decide +kernel) rfl (lv_at hl 0 rfl) ?_
  refine vk_getf hx hb (hO.2.2.2.2.2.2.1.1 i hi).2.1 va_S.rf hown (hts _ jwO) (fun x h => h) (by decide +kernel) ?_
  refine lv_goto (off := 4) (tgt := 14) hx hb (by decide +kernel) (by decide) ?_
  exact fin _ _ _ _ hR va_S.rf (by decide +kernel)
theorem j_latin {i : Nat} (hi : i < 6) (hK : K (some (.int 1)) sh rf mem nx) : jx l G ol (d + 1) yLatin prog_14_method_154_code 1 (some .boolean) [.ref (G.2.2.2.2 (2 + i))] sh rf mem nx K := by
  refine jx_enter (by decide +kernel) (Nat.le_of_ble_eq_true rfl) (by decide +kernel) hK ?_
  intro p e R s m args below meth c Q X hR fin ls hl
  have hl : lv_has ls 1 [(0, .ref (G.2.2.2.2 (2 + i)))] := hl
  obtain ⟨⟨hx, hb, hml, hown, hts⟩, hO, hz, hfr, hlo⟩ := X
  refine va_gets hx hb hO.2.2.2.2.2.2.2.2.1 va_S.rf hown (hts _ jwC) (fun x h => h) (by decide +kernel) ?_
  refine lv_if_eq (off := 14) (tgt := 17) hx hb (by decide +kernel) (by decide) (fun q => absurd q (by decide)) (fun _ => ?_)
  refine lv_aload_n (k := 0) hx hb (by decide +kernel) rfl (lv_at hl 0 rfl) ?_
  refine vk_getf hx hb (hO.2.2.2.2.2.2.1.1 i hi).2.1 va_S.rf hown (hts _ jwO) (fun x h => h) (by decide +kernel) ?_
  refine lv_if_ne (off := 7) (tgt := 17) hx hb (by decide +kernel) (by decide) (fun q => absurd rfl q) (fun _ => ?_)
  refine lv_iconst (n := 1) (v := 1) hx hb (by decide +kernel) (by decide) ?_
  refine lv_goto (off := 4) (tgt := 18) hx hb (by decide +kernel) (by decide) ?_
  exact fin _ _ _ _ hR va_S.rf (by decide +kernel)
theorem j_len0 : ∀ i, i < 6 → (Int32.ofNat (ab_len.getD i 0)) >>> ((0 : Int32) &&& 31) = nI (ab_len.getD i 0) := by decide +kernel
abbrev yLen : MethodName := ⟨"java/lang/String", "length", "()I"⟩
theorem j_length {i : Nat} (hi : i < 6) (hK : K (some (.int (nI (ab_len.getD i 0)))) sh rf mem nx) : jx l G ol (d + 2) yLen prog_14_method_54_code 1 (some .int) [.ref (G.2.2.2.2 (2 + i))] sh rf mem nx K := by
  refine jx_enter (by decide +kernel) (Nat.le_of_ble_eq_true rfl) rfl hK ?_
  intro p e R s m args below meth c Q X hR fin ls hl
  have hl : lv_has ls 1 [(0, .ref (G.2.2.2.2 (2 + i)))] := hl
  have X' := X
  obtain ⟨⟨hx, hb, hml, hown, hts⟩, hO, hz, hfr, hlo⟩ := X
  obtain ⟨v1, v2, v3, v4⟩ := hO.2.2.2.2.2.2.1.1 i hi
  refine lv_aload_n (k := 0) hx hb (by decide +kernel) rfl (lv_at hl 0 rfl) ?_
  refine vk_getf hx hb v3 va_S.rf hown (hts _ jwV) (fun x h => h) (by decide +kernel) ?_
  refine va_tlen hx hb v4 va_S.rf rfl (by decide +kernel) ?_
  refine lv_aload_n (k := 0) hx hb (by decide +kernel) rfl (lv_at hl 0 rfl) ?_
  refine jx_callV (As := []) (d0 := d + 1) (idx := 335) X' hi rfl (j_coder (d := d) hi ⟨rfl, rfl, rfl, rfl, rfl⟩) (by omega) (by decide) (inw (by decide +kernel)) jwS (inw (by decide +kernel)) (inw (by decide +kernel)) (inw (by decide +kernel)) ⟨by decide, by decide, by decide +kernel⟩ rfl hl.1 (Nat.le_of_ble_eq_true rfl) hR va_S.rf (by decide +kernel) (fun H1 locs1 hR1 hS1 => ?_)
  refine lv_ishr (x := Int32.ofNat (ab_len.getD i 0)) (y := 0) hx hb (by decide +kernel) ?_
  rw [j_len0 i hi]
  exact fin _ _ _ _ hR1 hS1 (by decide +kernel)
abbrev yPci : MethodName := ⟨"jdk/internal/util/Preconditions", "checkIndex", "(IILjava/util/function/BiFunction;)I"⟩
abbrev yCi : MethodName := ⟨"java/lang/String", "checkIndex", "(II)V"⟩
theorem j_pci {a b : Int32} {v : Value} (hv : v = .null ∨ ∃ t, v = .ref t) (h0 : ¬ a < 0) (hab : a < b) (hK : K (some (.int a)) sh rf mem nx) : jx l G ol (d + 1) yPci prog_18_method_11_code 3 (some .int) [.int a, .int b, v] sh rf mem nx K := by
  have hn : (lg_sl [.int a, .int b, v]).length ≤ 3 := by
    rcases hv with rfl | ⟨t, rfl⟩
    · exact Nat.le_of_ble_eq_true rfl
    · exact Nat.le_of_ble_eq_true rfl
  refine jx_enter (by decide +kernel) hn rfl hK ?_
  intro p e R s m args below meth c Q X hR fin ls hl
  obtain ⟨⟨hx, hb, hml, hown, hts⟩, hO, hz, hfr, hlo⟩ := X
  have a0 : ls[0]? = some (.val (.int a)) := lv_at hl 0 rfl
  have a1 : ls[1]? = some (.val (.int b)) := lv_at hl 1 rfl
  refine lv_iload_n (k := 0) hx hb (by decide +kernel) rfl a0 ?_
  refine lv_if_lt (off := 8) (tgt := 9) hx hb (by decide +kernel) (by decide) (fun q => absurd q h0) (fun _ => ?_)
  refine lv_iload_n (k := 0) hx hb (by decide +kernel) rfl a0 ?_
  refine lv_iload_n (k := 1) hx hb (by decide +kernel) rfl a1 ?_
  refine lv_icmp_lt (off := 10) (tgt := 16) hx hb (by decide +kernel) (by decide) (fun _ => ?_) (fun q => absurd hab q)
  refine lv_iload_n (k := 0) hx hb (by decide +kernel) rfl a0 ?_
  exact fin _ _ _ _ hR va_S.rf (by decide +kernel)
theorem j_ci {a b : Int32} (h0 : ¬ a < 0) (hab : a < b) (hK : K none sh rf mem nx) : jx l G ol (d + 2) yCi prog_14_method_155_code 2 none [.int a, .int b] sh rf mem nx K := by
  refine jx_enterV (by decide +kernel) (Nat.le_of_ble_eq_true rfl) hK ?_
  intro p e R s m args below meth c Q X hR fin ls hl
  have X' := X
  obtain ⟨⟨hx, hb, hml, hown, hts⟩, hO, hz, hfr, hlo⟩ := X
  have go : ∀ v : Value, (v = .null ∨ ∃ t, v = .ref t) → v.category = 1 → W p l e R s m args below meth c s.heap [] 0 0 Q (F0 m (0 + 1 + 1 + 3) ls [v, .int b, .int a]) := by
    intro v hv hcat
    refine jx_callS (As := [.int a, .int b, v]) (rest := []) (d0 := d + 1) (idx := 1059) (n := 3) X' (j_pci (d := d) hv h0 hab ⟨rfl, rfl, rfl, rfl, rfl⟩) (by omega) (by decide) (inw (by decide +kernel)) jwP (inw (by decide +kernel)) (inw (by decide +kernel)) ⟨by decide, by decide, by decide +kernel⟩ rfl hl.1 (by decide) hR va_S.rf (by decide +kernel) (fun H1 locs1 hR1 hS1 => ?_)
    refine lv_pop (va := .int a) hx hb (by decide +kernel) rfl ?_
    exact fin _ _ _ _ hR1 hS1 (by decide +kernel)
  refine lv_iload_n (k := 0) hx hb (by decide +kernel) rfl (lv_at hl 0 rfl) ?_
  refine lv_iload_n (k := 1) hx hb (by decide +kernel) rfl (lv_at hl 1 rfl) ?_
  have w1 : Cond.fieldLink "java/lang/String" 1053 "jdk/internal/util/Preconditions" "SIOOBE_FORMATTER" "Ljava/util/function/BiFunction;" ∈ ab_ws := inw (by decide +kernel)
  rcases hO.2.2.2.2.2.2.2.2.2 with hq | ⟨t, hq⟩
  · exact va_gets hx hb hq va_S.rf hown (hts _ w1) (fun x h => h) (by decide +kernel) (go _ (Or.inl rfl) rfl)
  · exact va_gets hx hb hq va_S.rf hown (hts _ w1) (fun x h => h) (by decide +kernel) (go _ (Or.inr ⟨t, rfl⟩) rfl)
abbrev yLca : MethodName := ⟨"java/lang/StringLatin1", "charAt", "([BI)C"⟩
def chJ (i k : Nat) : Int32 := (ab_byt.getD i []).getD k 0
theorem j_ch0 : ∀ i, i < 6 → ∀ k, k < ab_len.getD i 0 → ((((ab_byt.getD i []).getD k 0) &&& 255).toUInt32 % 65536).toInt32 = chJ i k ∧ narrow .char (.int (chJ i k)) = .int (chJ i k) := by decide +kernel
theorem len_lt : ∀ i, i < 6 → ab_len.getD i 0 ≤ 4 := by decide +kernel
theorem j_lca {i k : Nat} (hi : i < 6) (hk : k < ab_len.getD i 0) (hK : K (some (.int (chJ i k))) sh rf mem nx) : jx l G ol (d + 3) yLca prog_15_method_2_code 2 (some .char) [.ref (G.2.2.2.2 (8 + i)), .int (nI k)] sh rf mem nx K := by
  have hle := len_lt i hi
  refine jx_enter (by decide +kernel) (Nat.le_of_ble_eq_true rfl) (j_ch0 i hi k hk).2 hK ?_
  intro p e R s m args below meth c Q X hR fin ls hl
  have hl : lv_has ls 2 [(0, .ref (G.2.2.2.2 (8 + i))), (1, .int (nI k))] := hl
  have X' := X
  obtain ⟨⟨hx, hb, hml, hown, hts⟩, hO, hz, hfr, hlo⟩ := X
  obtain ⟨v1, v2, v3, v4⟩ := hO.2.2.2.2.2.2.1.1 i hi
  refine lv_iload_n (k := 1) hx hb (by decide +kernel) rfl (lv_at hl 1 rfl) ?_
  refine lv_aload_n (k := 0) hx hb (by decide +kernel) rfl (lv_at hl 0 rfl) ?_
  refine va_tlen hx hb v4 va_S.rf rfl (by decide +kernel) ?_
  refine jx_callS (As := [.int (nI k), .int (nI (ab_len.getD i 0))]) (rest := []) (d0 := d + 2) (idx := 9) (n := 2) X' (j_ci (d := d) (nI_pos (by omega)) (nI_lt hk (by omega)) ⟨rfl, rfl, rfl, rfl, rfl⟩) (by omega) (by decide) (inw (by decide +kernel)) jwS (inw (by decide +kernel)) (inw (by decide +kernel)) ⟨by decide, by decide, by decide +kernel⟩ rfl hl.1 (by decide) hR va_S.rf (by decide +kernel) (fun H1 locs1 hR1 hS1 => ?_)
  refine lv_aload_n (k := 0) hx hb (by decide +kernel) rfl (lv_at hl 0 rfl) ?_
  refine lv_iload_n (k := 1) hx hb (by decide +kernel) rfl (lv_at hl 1 rfl) ?_
  refine va_tb hx hb v4 hS1 (vp_in_nI hk (by omega)) (v := .int ((ab_byt.getD i []).getD k 0)) (by rw [cl_nI (by omega)]) (by decide +kernel) ?_
  refine lv_sipush (n := 255) (v := 255) hx hb (by decide +kernel) (by decide) ?_
  refine lv_iand hx hb (by decide +kernel) ?_
  refine lv_i2c (v := chJ i k) hx hb (by decide +kernel) (j_ch0 i hi k hk).1 ?_
  exact fin _ _ _ _ hR1 hS1 (by decide +kernel)
abbrev yCa : MethodName := ⟨"java/lang/String", "charAt", "(I)C"⟩
theorem j_charAt {i k : Nat} (hi : i < 6) (hk : k < ab_len.getD i 0) (hK : K (some (.int (chJ i k))) sh rf mem nx) : jx l G ol (d + 4) yCa prog_14_method_56_code 2 (some .char) [.ref (G.2.2.2.2 (2 + i)), .int (nI k)] sh rf mem nx K := by
  refine jx_enter (by decide +kernel) (Nat.le_of_ble_eq_true rfl) (j_ch0 i hi k hk).2 hK ?_
  intro p e R s m args below meth c Q X hR fin ls hl
  have hl : lv_has ls 2 [(0, .ref (G.2.2.2.2 (2 + i))), (1, .int (nI k))] := hl
  have X' := X
  obtain ⟨⟨hx, hb, hml, hown, hts⟩, hO, hz, hfr, hlo⟩ := X
  obtain ⟨v1, v2, v3, v4⟩ := hO.2.2.2.2.2.2.1.1 i hi
  refine lv_aload_n (k := 0) hx hb (by decide +kernel) rfl (lv_at hl 0 rfl) ?_
  refine jx_callV (As := []) (rest := []) (d0 := d + 1) (idx := 492) X' hi rfl (j_latin (d := d) hi ⟨rfl, rfl, rfl, rfl, rfl⟩) (by omega) (by decide) (inw (by decide +kernel)) jwS (inw (by decide +kernel)) (inw (by decide +kernel)) (inw (by decide +kernel)) ⟨by decide, by decide, by decide +kernel⟩ rfl hl.1 (by decide) hR va_S.rf (by decide +kernel) (fun H1 locs1 hR1 hS1 => ?_)
  refine lv_if_eq (x := 1) (off := 12) (tgt := 16) hx hb (by decide +kernel) (by decide) (fun q => absurd q (by decide)) (fun _ => ?_)
  refine lv_aload_n (k := 0) hx hb (by decide +kernel) rfl (lv_at hl 0 rfl) ?_
  refine vk_getf hx hb v3 hS1 hown (hts _ jwV) (fun x h => h) (by decide +kernel) ?_
  refine lv_iload_n (k := 1) hx hb (by decide +kernel) rfl (lv_at hl 1 rfl) ?_
  refine jx_callS (As := [.ref (G.2.2.2.2 (8 + i)), .int (nI k)]) (rest := []) (d0 := d + 3) (idx := 495) (n := 2) X' (j_lca (d := d) hi hk ⟨rfl, rfl, rfl, rfl, rfl⟩) (by omega) (by decide) (inw (by decide +kernel)) jwL (inw (by decide +kernel)) (inw (by decide +kernel)) ⟨by decide, by decide, by decide +kernel⟩ rfl hl.1 (by decide) hR1 hS1 (by decide +kernel) (fun H2 locs2 hR2 hS2 => ?_)
  exact fin _ _ _ _ hR2 hS2 (by decide +kernel)
abbrev yEnc : MethodName := ⟨"java/lang/StringLatin1", "canEncode", "(I)Z"⟩
theorem j_enc {q : Nat} (hq : q < 256) (hK : K (some (.int 1)) sh rf mem nx) : jx l G ol (d + 1) yEnc prog_15_method_4_code 1 (some .boolean) [.int (nI q)] sh rf mem nx K := by
  refine jx_enter (by decide +kernel) (Nat.le_of_ble_eq_true rfl) (by decide +kernel) hK ?_
  intro p e R s m args below meth c Q X hR fin ls hl
  have hl : lv_has ls 1 [(0, .int (nI q))] := hl
  obtain ⟨⟨hx, hb, hml, hown, hts⟩, hO, hz, hfr, hlo⟩ := X
  refine lv_iload_n (k := 0) hx hb (by decide +kernel) rfl (lv_at hl 0 rfl) ?_
  refine lv_if_lt (off := 14) (tgt := 15) hx hb (by decide +kernel) (by decide) (fun z => absurd z (nI_pos (by omega))) (fun _ => ?_)
  refine lv_iload_n (k := 0) hx hb (by decide +kernel) rfl (lv_at hl 0 rfl) ?_
  refine lv_sipush (n := 255) (v := 255) hx hb (by decide +kernel) (by decide) ?_
  refine lv_icmp_gt (off := 7) (tgt := 15) hx hb (by decide +kernel) (by decide) (fun z => absurd z (Int32.not_lt.mpr (nI_le (b := 255) (by omega) (by decide)))) (fun _ => ?_)
  refine lv_iconst (n := 1) (v := 1) hx hb (by decide +kernel) (by decide) ?_
  refine lv_goto (off := 4) (tgt := 16) hx hb (by decide +kernel) (by decide) ?_
  exact fin _ _ _ _ hR va_S.rf (by decide +kernel)
end JX
