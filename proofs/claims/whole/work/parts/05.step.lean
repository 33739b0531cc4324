/-! THE SMALL MACHINE, part 2: one step, as what must hold for it -/
abbrev ab_I : Type := Instr × Nat × List Nat × List Int32
abbrev ab_E : Type := Nat × ab_I
abbrev ab_P : Type := Nat → List Value → List Value → ab_S → ab_R → ab_N → Nat → Nat → Nat → Prop
abbrev ab_K : Type := Option Value → ab_S → ab_R → ab_N → Nat → Prop
abbrev ab_Cl : Type := Nat → List Value → ab_S → ab_R → ab_N → Nat → ab_K → Prop
abbrev ab_Rt : Type := Option Value → ab_S → ab_R → ab_N → Nat → Nat → Nat → Prop
abbrev ab_Ol : Type := Nat → Nat × (Nat → Int32)
def ab_at : List ab_E → Nat → Option ab_I
  | [], _ => none
  | e :: t, pc => match Nat.beq e.1 pc with
    | true => some e.2
    | false => ab_at t pc
theorem ab_at_mem : ∀ {T : List ab_E} {pc : Nat} {i : ab_I}, ab_at T pc = some i → (pc, i) ∈ T
  | [], _, _, h => by cases h
  | e :: t, pc, i, h => by
    unfold ab_at at h
    split at h
    · rename_i hb
      have : e.1 = pc := Nat.eq_of_beq_eq_true hb
      cases h
      rw [← this]
      exact List.mem_cons_self
    · exact List.mem_cons_of_mem _ (ab_at_mem h)
def ab_i1 (st : List Value) (k : Int32 → List Value → Prop) : Prop := match st with
  | .int a :: r => k a r
  | _ => False
def ab_i2 (st : List Value) (k : Int32 → Int32 → List Value → Prop) : Prop := match st with
  | .int b :: .int a :: r => k a b r
  | _ => False
def ab_l1 (st : List Value) (k : Int64 → List Value → Prop) : Prop := match st with
  | .long a :: r => k a r
  | _ => False
def ab_l2 (st : List Value) (k : Int64 → Int64 → List Value → Prop) : Prop := match st with
  | .long b :: .long a :: r => k a b r
  | _ => False
def ab_r1 (st : List Value) (k : Nat → List Value → Prop) : Prop := match st with
  | .ref a :: r => k a r
  | _ => False
/-- an index over an array -/
def ab_ir (st : List Value) (k : Int32 → Nat → List Value → Prop) : Prop := match st with
  | .int i :: .ref a :: r => k i a r
  | _ => False
/-- a number, an index, an array -/
def ab_iir (st : List Value) (k : Int32 → Int32 → Nat → List Value → Prop) : Prop := match st with
  | .int x :: .int i :: .ref a :: r => k x i a r
  | _ => False
def ab_rir (st : List Value) (k : Nat → Int32 → Nat → List Value → Prop) : Prop := match st with
  | .ref x :: .int i :: .ref a :: r => k x i a r
  | _ => False
/-- a number over an object, a reference over an object -/
def ab_io (st : List Value) (k : Int32 → Nat → List Value → Prop) : Prop := match st with
  | .int x :: .ref a :: r => k x a r
  | _ => False
def ab_ro (st : List Value) (k : Nat → Nat → List Value → Prop) : Prop := match st with
  | .ref x :: .ref a :: r => k x a r
  | _ => False
def ab_cp (st : List Value) (k : Int32 → Int32 → Nat → Int32 → Nat → List Value → Prop) : Prop := match st with
  | .int n :: .int dp :: .ref d :: .int sp :: .ref a :: r => k n dp d sp a r
  | _ => False
def ab_o1 (o : List Nat) (k : Nat → Prop) : Prop := match o with
  | a :: _ => k a
  | _ => False
def ab_o2 (o : List Nat) (k : Nat → Nat → Prop) : Prop := match o with
  | a :: b :: _ => k a b
  | _ => False
def ab_o4 (o : List Nat) (k : Nat → Nat → Nat → Nat → Prop) : Prop := match o with
  | a :: b :: c :: d :: _ => k a b c d
  | _ => False
def ab_v1 (vs : List Int32) (k : Int32 → Prop) : Prop := match vs with
  | a :: _ => k a
  | _ => False
def ab_li (L : List Value) (i : Nat) (k : Int32 → Prop) : Prop := match L[i]? with
  | some (.int x) => k x
  | _ => False
def ab_ll (L : List Value) (i : Nat) (k : Int64 → Prop) : Prop := match L[i]? with
  | some (.long x) => k x
  | _ => False
def ab_la (L : List Value) (i : Nat) (k : Nat → Prop) : Prop := match L[i]? with
  | some (.ref x) => k x
  | _ => False
def ab_so (L : List Value) (i : Nat) (v : Value) (k : List Value → Prop) : Prop := match ab_nl L i && Nat.blt i L.length with
  | true => k (L.set i v)
  | false => False
def ab_so2 (L : List Value) (i : Nat) (v : Value) (k : List Value → Prop) : Prop := match ab_nl L i && Nat.blt (i + 1) L.length with
  | true => k ((L.set i v).set (i + 1) (.retAddr 0))
  | false => False
def ab_br (c : ClassFile.Cond) (x y : Int32) (A B : Prop) : Prop := match c with
  | .eq => (x = y → A) ∧ (¬ x = y → B)
  | .ne => (¬ x = y → A) ∧ (x = y → B)
  | .lt => (x < y → A) ∧ (¬ x < y → B)
  | .ge => (y ≤ x → A) ∧ (¬ y ≤ x → B)
  | .gt => (y < x → A) ∧ (¬ y < x → B)
  | .le => (x ≤ y → A) ∧ (¬ x ≤ y → B)
def ab_switch (x : Int32) (k : Nat → Prop) (d : Nat) : List Int32 → List Nat → Prop
  | v :: vs, t :: ts => (x = v → k t) ∧ (¬ x = v → ab_switch x k d vs ts)
  | _, _ => k d
/-- a cell of a kind -/
def ab_is (sh : ab_S) (nx a c : Nat) : Prop := a < nx ∧ (sh a).1 = c
/-- what isn't null -/
def ab_rd (x : Option Nat) (k : Nat → Prop) : Prop := ∃ b, x = some b ∧ k b
def ab_ok8 (r : List Value) (A : Prop) : Prop := match Nat.ble ((r.map fun v => v.category).sum) 8 with
  | true => A
  | false => False
/-- behind a call: void, a number, a reference, a long -/
def ab_rv (t : Nat) (rest : List Value) (k : List Value → ab_S → ab_R → ab_N → Nat → Prop) : ab_K := match t with
  | 0 => fun r sh rf mem nx => r = none ∧ k rest sh rf mem nx
  | 1 => fun r sh rf mem nx => ∃ x, r = some (.int x) ∧ k (.int x :: rest) sh rf mem nx
  | 2 => fun r sh rf mem nx => ∃ x, r = some (.ref x) ∧ k (.ref x :: rest) sh rf mem nx
  | _ => fun r sh rf mem nx => ∃ x, r = some (.long x) ∧ k (.long x :: rest) sh rf mem nx
def ab_mc (m : Nat) : Nat := match m with
  | 0 => 2
  | 6 => 1
  | 25 => 1
  | 30 => 4
  | 33 => 1
  | 43 => 18
  | 60 => 100
  | 24 => 2
  | 92 => 2
  | 110 => 24
  | _ => 0
def ab_ms (m : Nat) : Nat := match m with
  | 0 => 110
  | 6 => 96
  | 25 => 24
  | 30 => 44
  | 33 => 6
  | 43 => 147
  | 60 => 1207
  | 24 => 99
  | 92 => 99
  | 110 => 5320
  | _ => 0
/-- a call: o = answer's kind, method, parameters, 1 if it makes cells -/
def ab_call (Cl : ab_Cl) (bc bs : Nat) (t m f : Nat) (as rest : List Value) (sh : ab_S) (rf : ab_R) (mem : ab_N) (nx cu su : Nat) (k : List Value → ab_S → ab_R → ab_N → Nat → Nat → Nat → Prop) : Prop := match f with
  | 0 => ab_ok8 rest (Cl m as sh rf mem nx (ab_rv t rest (fun st sh rf mem nx => k st sh rf mem nx cu su)))
  | _ => (cu + ab_mc m ≤ bc ∧ su + ab_ms m ≤ bs) ∧ ab_ok8 rest (Cl m as sh rf mem nx (ab_rv t rest (fun st sh rf mem nx => k st sh rf mem nx (cu + ab_mc m) (su + ab_ms m))))
def ab_recv (st : List Value) (n : Nat) (k : Nat → List Value → List Value → Prop) : Prop := match st.drop n with
  | .ref b :: rest => k b (.ref b :: (st.take n).reverse) rest
  | _ => False
def ab_bool (b : Nat) (x : Int32) : Prop := match b with
  | 0 => True
  | _ => x = 0 ∨ x = 1
def ab_ret1 (st : List Value) (k : Value → Prop) : Prop := match st with
  | [v] => k v
  | _ => False
def ab_step (Cl : ab_Cl) (Rt : ab_Rt) (ol : ab_Ol) (bc bs : Nat) (T : List ab_E) (P : ab_P) (pc : Nat) (L st : List Value) (sh : ab_S) (rf : ab_R) (mem : ab_N) (nx cu su : Nat) : Prop :=
  match ab_at T pc with
  | none => False
  | some (i, len, o, vs) => match i with
    | .iconst _ => ab_v1 vs fun v => P (pc + len) L (.int v :: st) sh rf mem nx cu su
    | .bipush _ => ab_v1 vs fun v => P (pc + len) L (.int v :: st) sh rf mem nx cu su
    | .sipush _ => ab_v1 vs fun v => P (pc + len) L (.int v :: st) sh rf mem nx cu su
    | .ldc_w _ => ab_v1 vs fun v => P (pc + len) L (.int v :: st) sh rf mem nx cu su
    | .ldc _ => match vs with
      | v :: _ => P (pc + len) L (.int v :: st) sh rf mem nx cu su
      | [] => ab_o2 o fun _ k => P (pc + len) L (.ref (ab_old + 2 + k) :: st) sh rf mem nx cu su
    | .lconst n => P (pc + len) L (.long (Int64.ofNat n) :: st) sh rf mem nx cu su
    | .iload _ => ab_o1 o fun i => ab_li L i fun x => P (pc + len) L (.int x :: st) sh rf mem nx cu su
    | .iload_n _ => ab_o1 o fun i => ab_li L i fun x => P (pc + len) L (.int x :: st) sh rf mem nx cu su
    | .aload _ => ab_o1 o fun i => ab_la L i fun x => P (pc + len) L (.ref x :: st) sh rf mem nx cu su
    | .aload_n _ => ab_o1 o fun i => ab_la L i fun x => P (pc + len) L (.ref x :: st) sh rf mem nx cu su
    | .lload _ => ab_o1 o fun i => ab_ll L i fun x => P (pc + len) L (.long x :: st) sh rf mem nx cu su
    | .lload_n _ => ab_o1 o fun i => ab_ll L i fun x => P (pc + len) L (.long x :: st) sh rf mem nx cu su
    | .istore _ => ab_o1 o fun i => ab_i1 st fun x r => ab_so L i (.int x) fun L => P (pc + len) L r sh rf mem nx cu su
    | .istore_n _ => ab_o1 o fun i => ab_i1 st fun x r => ab_so L i (.int x) fun L => P (pc + len) L r sh rf mem nx cu su
    | .astore _ => ab_o1 o fun i => ab_r1 st fun x r => ab_so L i (.ref x) fun L => P (pc + len) L r sh rf mem nx cu su
    | .astore_n _ => ab_o1 o fun i => ab_r1 st fun x r => ab_so L i (.ref x) fun L => P (pc + len) L r sh rf mem nx cu su
    | .lstore _ => ab_o1 o fun i => ab_l1 st fun x r => ab_so2 L i (.long x) fun L => P (pc + len) L r sh rf mem nx cu su
    | .lstore_n _ => ab_o1 o fun i => ab_l1 st fun x r => ab_so2 L i (.long x) fun L => P (pc + len) L r sh rf mem nx cu su
    | .iinc _ _ => ab_o1 o fun i => ab_v1 vs fun v => ab_li L i fun x => ab_so L i (.int (x + v)) fun L => P (pc + len) L st sh rf mem nx cu su
    | .iadd => ab_i2 st fun a b r => P (pc + len) L (.int (a + b) :: r) sh rf mem nx cu su
    | .isub => ab_i2 st fun a b r => P (pc + len) L (.int (a - b) :: r) sh rf mem nx cu su
    | .imul => ab_i2 st fun a b r => P (pc + len) L (.int (a * b) :: r) sh rf mem nx cu su
    | .iand => ab_i2 st fun a b r => P (pc + len) L (.int (a &&& b) :: r) sh rf mem nx cu su
    | .ishr => ab_i2 st fun a b r => P (pc + len) L (.int (a >>> (b &&& 31)) :: r) sh rf mem nx cu su
    | .iushr => ab_i2 st fun a b r => P (pc + len) L (.int (a.toUInt32 >>> (b.toUInt32 &&& Int32.toUInt32 31)).toInt32 :: r) sh rf mem nx cu su
    | .idiv => ab_i2 st fun a b r => ¬ b = 0 ∧ P (pc + len) L (.int (a / b) :: r) sh rf mem nx cu su
    | .irem => ab_i2 st fun a b r => ¬ b = 0 ∧ P (pc + len) L (.int (a - a / b * b) :: r) sh rf mem nx cu su
    | .ineg => ab_i1 st fun a r => P (pc + len) L (.int (-a) :: r) sh rf mem nx cu su
    | .i2s => ab_i1 st fun a r => P (pc + len) L (.int a.toInt16.toInt32 :: r) sh rf mem nx cu su
    | .i2c => ab_i1 st fun a r => P (pc + len) L (.int (a.toUInt32 % 65536).toInt32 :: r) sh rf mem nx cu su
    | .i2l => ab_i1 st fun a r => P (pc + len) L (.long a.toInt64 :: r) sh rf mem nx cu su
    | .l2i => ab_l1 st fun a r => P (pc + len) L (.int a.toInt32 :: r) sh rf mem nx cu su
    | .lneg => ab_l1 st fun a r => P (pc + len) L (.long (-a) :: r) sh rf mem nx cu su
    | .ladd => ab_l2 st fun a b r => P (pc + len) L (.long (a + b) :: r) sh rf mem nx cu su
    | .lsub => ab_l2 st fun a b r => P (pc + len) L (.long (a - b) :: r) sh rf mem nx cu su
    | .lcmp => ab_l2 st fun a b r => P (pc + len) L (.int (lg_cmp a b) :: r) sh rf mem nx cu su
    | .dup => match st with
      | .int x :: r => P (pc + len) L (.int x :: .int x :: r) sh rf mem nx cu su
      | .ref x :: r => P (pc + len) L (.ref x :: .ref x :: r) sh rf mem nx cu su
      | _ => False
    | .dup2 => ab_ir st fun i a r => P (pc + len) L (.int i :: .ref a :: .int i :: .ref a :: r) sh rf mem nx cu su
    | .pop => match st with
      | .int _ :: r => P (pc + len) L r sh rf mem nx cu su
      | .ref _ :: r => P (pc + len) L r sh rf mem nx cu su
      | _ => False
    | .ifCond c _ => ab_o1 o fun t => ab_i1 st fun x r => ab_br c x 0 (P t L r sh rf mem nx cu su) (P (pc + len) L r sh rf mem nx cu su)
    | .if_icmp c _ => ab_o1 o fun t => ab_i2 st fun x y r => ab_br c x y (P t L r sh rf mem nx cu su) (P (pc + len) L r sh rf mem nx cu su)
    | .ifnonnull _ => ab_o1 o fun t => ab_r1 st fun _ r => P t L r sh rf mem nx cu su
    | .ifnull _ => ab_r1 st fun _ r => P (pc + len) L r sh rf mem nx cu su
    | .goto _ => ab_o1 o fun t => P t L st sh rf mem nx cu su
    | .tableswitch _ _ _ _ => match o with
      | d :: ts => ab_i1 st fun x r => ab_switch x (fun t => P t L r sh rf mem nx cu su) d vs ts
      | [] => False
    | .lookupswitch _ _ => match o with
      | d :: ts => ab_i1 st fun x r => ab_switch x (fun t => P t L r sh rf mem nx cu su) d vs ts
      | [] => False
    | .getfield _ => ab_o4 o fun t _ c k => ab_r1 st fun a r => ab_is sh nx a c ∧ (match t with
      | 1 => ab_rd (rf a k) fun b => P (pc + len) L (.ref b :: r) sh rf mem nx cu su
      | _ => P (pc + len) L (.int (mem a k) :: r) sh rf mem nx cu su)
    | .putfield _ => ab_o4 o fun t _ c k => match t with
      | 1 => ab_ro st fun x a r => ab_is sh nx a c ∧ P (pc + len) L r sh (ab_wr rf a k (some x)) mem nx cu su
      | 2 => ab_io st fun x a r => ab_is sh nx a c ∧ (x = 0 ∨ x = 1) ∧ P (pc + len) L r sh rf (ab_w mem a k x) nx cu su
      | _ => ab_io st fun x a r => ab_is sh nx a c ∧ P (pc + len) L r sh rf (ab_w mem a k x) nx cu su
    | .getstatic _ => P (pc + len) L (.ref (ab_old + 1) :: st) sh rf mem nx cu su
    | .iaload => ab_ir st fun i a r => match o with
      | [] => ab_is sh nx a 10 ∧ vp_in i (sh a).2 ∧ P (pc + len) L (.int (mem a i.toNatClampNeg) :: r) sh rf mem nx cu su
      | _ => ab_old ≤ a ∧ a < ab_old + 2 ∧ vp_in i (ol (a - ab_old)).1 ∧ P (pc + len) L (.int ((ol (a - ab_old)).2 i.toNatClampNeg) :: r) sh rf mem nx cu su
    | .baload => ab_ir st fun i a r => ab_is sh nx a 11 ∧ vp_in i (sh a).2 ∧ P (pc + len) L (.int (mem a i.toNatClampNeg) :: r) sh rf mem nx cu su
    | .caload => ab_ir st fun i a r => ab_is sh nx a 12 ∧ vp_in i (sh a).2 ∧ P (pc + len) L (.int (mem a i.toNatClampNeg) :: r) sh rf mem nx cu su
    | .aaload => ab_o1 o fun c => ab_ir st fun i a r => ab_is sh nx a c ∧ vp_in i (sh a).2 ∧ ab_rd (rf a i.toNatClampNeg) fun b => P (pc + len) L (.ref b :: r) sh rf mem nx cu su
    | .iastore => ab_iir st fun x i a r => ab_is sh nx a 10 ∧ vp_in i (sh a).2 ∧ P (pc + len) L r sh rf (ab_w mem a i.toNatClampNeg x) nx cu su
    | .bastore => ab_iir st fun x i a r => ab_is sh nx a 11 ∧ vp_in i (sh a).2 ∧ P (pc + len) L r sh rf (ab_w mem a i.toNatClampNeg (vp_nar .boolean x)) nx cu su
    | .castore => ab_iir st fun x i a r => ab_is sh nx a 12 ∧ vp_in i (sh a).2 ∧ P (pc + len) L r sh rf (ab_w mem a i.toNatClampNeg (vp_nar .char x)) nx cu su
    | .aastore => ab_o2 o fun c ce => ab_rir st fun x i a r => ab_is sh nx a c ∧ ab_is sh nx x ce ∧ vp_in i (sh a).2 ∧ P (pc + len) L r sh (ab_wr rf a i.toNatClampNeg (some x)) mem nx cu su
    | .arraylength => match o with
      | [c] => ab_r1 st fun a r => ab_is sh nx a c ∧ P (pc + len) L (.int (Int32.ofNat (sh a).2) :: r) sh rf mem nx cu su
      | _ => ab_r1 st fun a r => ab_old ≤ a ∧ a < ab_old + 2 ∧ P (pc + len) L (.int (Int32.ofNat (ol (a - ab_old)).1) :: r) sh rf mem nx cu su
    | .new _ => ab_o1 o fun c => (cu + 1 ≤ bc ∧ su + ab_nf c ≤ bs) ∧ nx < ab_old ∧ P (pc + len) L (.ref nx :: st) (ab_sw sh nx (c, 0)) (ab_rz rf nx) (ab_row mem nx fun _ => 0) (nx + 1) (cu + 1) (su + ab_nf c)
    | .newarray _ => ab_o1 o fun c => ab_i1 st fun n r => (cu + 1 ≤ bc ∧ su + n.toNatClampNeg ≤ bs) ∧ ¬ n < 0 ∧ n.toNatClampNeg ≤ 100000 ∧ nx < ab_old ∧ P (pc + len) L (.ref nx :: r) (ab_sw sh nx (c, n.toNatClampNeg)) (ab_rz rf nx) (ab_row mem nx fun _ => 0) (nx + 1) (cu + 1) (su + n.toNatClampNeg)
    | .anewarray _ => ab_o1 o fun c => ab_i1 st fun n r => (cu + 1 ≤ bc ∧ su + n.toNatClampNeg ≤ bs) ∧ ¬ n < 0 ∧ n.toNatClampNeg ≤ 100000 ∧ nx < ab_old ∧ P (pc + len) L (.ref nx :: r) (ab_sw sh nx (20 + c, n.toNatClampNeg)) (ab_rz rf nx) (ab_row mem nx fun _ => 0) (nx + 1) (cu + 1) (su + n.toNatClampNeg)
    | .invokevirtual _ => ab_o4 o fun t m n f => ab_recv st n fun b as rest => match o with
      | [_, _, _, _, c, _, _, _] => ab_is sh nx b c ∧ ab_call Cl bc bs t m f as rest sh rf mem nx cu su (fun st sh rf mem nx cu su => P (pc + len) L st sh rf mem nx cu su)
      | _ => ab_old + 2 ≤ b ∧ b < ab_old + 8 ∧ ab_call Cl bc bs t m f as rest sh rf mem nx cu su (fun st sh rf mem nx cu su => P (pc + len) L st sh rf mem nx cu su)
    | .invokestatic _ => match o with
      | [_, _, _] => ab_cp st fun n dp d sp a r => (ab_is sh nx a 10 ∧ ab_is sh nx d 10 ∧ ¬ sp < 0 ∧ ¬ dp < 0 ∧ ¬ n < 0 ∧ sp.toNatClampNeg + n.toNatClampNeg ≤ (sh a).2 ∧ dp.toNatClampNeg + n.toNatClampNeg ≤ (sh d).2) ∧ ab_ok8 r (P (pc + len) L r sh rf (ab_row mem d (va_cpy (mem a) (mem d) sp.toNatClampNeg dp.toNatClampNeg n.toNatClampNeg)) nx cu su)
      | _ => ab_o4 o fun t m n f => n ≤ st.length ∧ ab_call Cl bc bs t m f (st.take n).reverse (st.drop n) sh rf mem nx cu su (fun st sh rf mem nx cu su => P (pc + len) L st sh rf mem nx cu su)
    | .invokespecial _ => match o with
      | [_, _, _] => ab_r1 st fun _ r => ab_ok8 r (P (pc + len) L r sh rf mem nx cu su)
      | _ => ab_o4 o fun t m n f => ab_recv st n fun b as rest => ab_call Cl bc bs t m f as rest sh rf mem nx cu su (fun st sh rf mem nx cu su => P (pc + len) L st sh rf mem nx cu su)
    | .ireturn => ab_o1 o fun b => ab_ret1 st fun v => ab_i1 [v] fun x _ => ab_bool b x ∧ Rt (some (.int x)) sh rf mem nx cu su
    | .lreturn => ab_ret1 st fun v => ab_l1 [v] fun x _ => Rt (some (.long x)) sh rf mem nx cu su
    | .areturn => ab_ret1 st fun v => ab_r1 [v] fun x _ => Rt (some (.ref x)) sh rf mem nx cu su
    | .return_ => match st with
      | [] => Rt none sh rf mem nx cu su
      | _ => False
    | _ => False
/-- steps, up to the places where one stops -/
def ab_wp (Cl : ab_Cl) (Rt : ab_Rt) (ol : ab_Ol) (bc bs : Nat) (T : List ab_E) (Lf : ab_P) (stops : List Nat) : Nat → ab_P
  | 0 => Lf
  | k + 1 => fun pc L st sh rf mem nx cu su => match stops.any (fun q => Nat.beq q pc) with
    | true => Lf pc L st sh rf mem nx cu su
    | false => ab_step Cl Rt ol bc bs T (ab_wp Cl Rt ol bc bs T Lf stops k) pc L st sh rf mem nx cu su
