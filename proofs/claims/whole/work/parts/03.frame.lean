/-! THE SMALL MACHINE, part 1: its words. Shapes (kind, length), references, numbers by cell and place; the cells are numbered in the order in which the law makes them. -/
abbrev ab_S : Type := Nat → Nat × Nat
abbrev ab_R : Type := Nat → Nat → Option Nat
abbrev ab_N : Type := Nat → Nat → Int32
/-- cells from here on are those that were there before the law -/
def ab_old : Nat := 1000000
/-- where the first new cell lies, the classes' numbers and slots, the array classes by kind, where the old cells lie -/
abbrev ab_G : Type := Nat × (Nat → ClassId) × (Nat → Nat → Nat) × (Nat → ClassId) × (Nat → Nat)
def ab_loc (G : ab_G) (a : Nat) : Nat := if a < ab_old then G.1 + a else G.2.2.2.2 (a - ab_old)
def ab_cv (G : ab_G) (v : Value) : Value := match v with
  | .ref a => .ref (ab_loc G a)
  | .int x => .int x
  | .long x => .long x
  | .float x => .float x
  | .double x => .double x
  | .null => .null
  | .retAddr p => .retAddr p
def ab_cvo (G : ab_G) (r : Option Nat) : Value := match r with
  | none => .null
  | some b => .ref (ab_loc G b)
/-- the fields by class: 0 a number, 1 a reference, 2 a truth value -/
def ab_fk : List (List Nat) := [[1, 1], [2, 0, 0], [1, 1, 0, 0, 0, 0, 0, 0, 0], [0, 0, 1], [0, 0, 1, 1], [0, 0, 1], [0, 0, 0, 0, 0, 0, 0, 1, 0, 0, 2], [1, 1, 0, 0, 0, 0, 0, 0, 0, 1, 0], [1, 1, 1, 1, 1, 2, 1, 0, 1, 1, 1, 1, 0], [1, 1, 1, 2, 0, 1, 1, 1, 1, 1, 0, 0, 0, 0, 0, 0, 0, 1, 1, 1, 0, 0, 1, 0, 1, 1, 1, 1, 1, 1, 1, 1, 1, 1, 1, 1, 0]]
def ab_nf (c : Nat) : Nat := (ab_fk.getD c []).length
def ab_ft (c k : Nat) : Nat := (ab_fk.getD c []).getD k 0
def ab_fv (G : ab_G) (rf : ab_R) (mem : ab_N) (c a k : Nat) : Value := if ab_ft c k = 1 then ab_cvo G (rf a k) else .int (mem a k)
def ab_fl (G : ab_G) (rf : ab_R) (mem : ab_N) (c a : Nat) : List Value := (List.range (ab_nf c)).map (ab_fv G rf mem c a)
def ab_ent (G : ab_G) (sh : ab_S) (rf : ab_R) (mem : ab_N) (a : Nat) : va_E :=
  if (sh a).1 < 10 then .inr ((sh a).1, ab_fl G rf mem (sh a).1 a)
  else if (sh a).1 < 20 then .inl (G.2.2.2.1 (sh a).1, (sh a).2, .inl (mem a))
  else .inl (G.2.2.2.1 (sh a).1, (sh a).2, .inr (.inr (.inr (.inr (fun j => (rf a j).map (ab_loc G))))))
def ab_wsl (G : ab_G) (sh : ab_S) (rf : ab_R) (mem : ab_N) (nx : Nat) : va_W := (List.range nx).map (fun a => (G.1 + a, ab_ent G sh rf mem a))
abbrev ab_D (G : ab_G) : va_G := (G.2.1, G.2.2.1)
def ab_tys (G : ab_G) : List (ClassId × FieldType) := [(G.2.2.2.1 10, .int), (G.2.2.2.1 11, .boolean), (G.2.2.2.1 12, .char), (G.2.2.2.1 23, .object RX3), (G.2.2.2.1 24, .object RX4), (G.2.2.2.1 25, .object RX5), (G.2.2.2.1 26, .object RX6)]
/-- the heap holds what the small machine's heap says -/
def ab_HR (G : ab_G) (sh : ab_S) (rf : ab_R) (mem : ab_N) (nx : Nat) (H : Heap) : Prop := nx ≤ ab_old ∧ H.size = G.1 + nx ∧ va_P (ab_D G) vwCl (ab_wsl G sh rf mem nx) H
abbrev ab_A (G : ab_G) : Nat → Prop := fun q => G.1 ≤ q
theorem ab_wsl_at {G : ab_G} {sh : ab_S} {rf : ab_R} {mem : ab_N} {nx a : Nat} (h : a < nx) : (ab_wsl G sh rf mem nx)[a]? = some (G.1 + a, ab_ent G sh rf mem a) := by
  simp [ab_wsl, h]
theorem ab_wsl_inv {G : ab_G} {sh : ab_S} {rf : ab_R} {mem : ab_N} {nx k : Nat} {q : Nat × va_E} (h : (ab_wsl G sh rf mem nx)[k]? = some q) : k < nx ∧ q = (G.1 + k, ab_ent G sh rf mem k) := by
  by_cases hk : k < nx
  · rw [ab_wsl_at hk] at h
    exact ⟨hk, (Option.some.inj h).symm⟩
  · have : (ab_wsl G sh rf mem nx)[k]? = none := by simp [ab_wsl]; omega
    rw [this] at h; cases h
theorem ab_wsl_D {G : ab_G} {sh : ab_S} {rf : ab_R} {mem : ab_N} {nx : Nat} : va_D (ab_A G) (ab_wsl G sh rf mem nx) := by
  refine ⟨fun i j p q hp hq hpq => ?_, fun k q hq => ?_⟩
  · have h1 := (ab_wsl_inv hp).2
    have h2 := (ab_wsl_inv hq).2
    subst h1; subst h2
    simp at hpq
    exact hpq
  · have h1 := (ab_wsl_inv hq).2
    subst h1
    exact Nat.le_add_right _ _
theorem ab_wsl_set {G : ab_G} {sh : ab_S} {rf rf' : ab_R} {mem mem' : ab_N} {nx a : Nat} {e : va_E} (he : ab_ent G sh rf' mem' a = e) (ho : ∀ b, b ≠ a → ab_ent G sh rf' mem' b = ab_ent G sh rf mem b) : (ab_wsl G sh rf mem nx).set a (G.1 + a, e) = ab_wsl G sh rf' mem' nx := by
  apply List.ext_getElem?
  intro i
  rw [List.getElem?_set]
  by_cases hi : i < nx
  · rw [ab_wsl_at hi, ab_wsl_at hi]
    by_cases hia : a = i
    · subst hia
      simp [ab_wsl, hi, he]
    · rw [if_neg hia, ho i (Ne.symm hia)]
  · have h1 : (ab_wsl G sh rf mem nx)[i]? = none := by simp [ab_wsl]; omega
    have h2 : (ab_wsl G sh rf' mem' nx)[i]? = none := by simp [ab_wsl]; omega
    rw [h1, h2]
    by_cases hia : a = i
    · rw [if_pos hia, if_neg]; simp [ab_wsl]; omega
    · rw [if_neg hia]
/-- what is written -/
def ab_w (mem : ab_N) (a k : Nat) (v : Int32) : ab_N := fun b => if b = a then upd (mem a) k v else mem b
def ab_wr (rf : ab_R) (a k : Nat) (v : Option Nat) : ab_R := fun b => if b = a then va_up (rf a) k v else rf b
def ab_row (mem : ab_N) (a : Nat) (f : Nat → Int32) : ab_N := fun b => if b = a then f else mem b
def ab_rz (rf : ab_R) (a : Nat) : ab_R := fun b => if b = a then (fun _ => none) else rf b
def ab_sw (sh : ab_S) (a : Nat) (x : Nat × Nat) : ab_S := fun b => if b = a then x else sh b
theorem ab_w_self (mem : ab_N) (a k : Nat) (v : Int32) : ab_w mem a k v a = upd (mem a) k v := if_pos rfl
theorem ab_w_ne (mem : ab_N) {a b : Nat} (k : Nat) (v : Int32) (h : b ≠ a) : ab_w mem a k v b = mem b := if_neg h
theorem ab_wr_self (rf : ab_R) (a k : Nat) (v : Option Nat) : ab_wr rf a k v a = va_up (rf a) k v := if_pos rfl
theorem ab_wr_ne (rf : ab_R) {a b : Nat} (k : Nat) (v : Option Nat) (h : b ≠ a) : ab_wr rf a k v b = rf b := if_neg h
theorem ab_ent_w {G : ab_G} {sh : ab_S} {rf : ab_R} {mem : ab_N} {a k b : Nat} {v : Int32} (h : b ≠ a) : ab_ent G sh rf (ab_w mem a k v) b = ab_ent G sh rf mem b := by
  have hf : ∀ c, ab_fl G rf (ab_w mem a k v) c b = ab_fl G rf mem c b := fun c => List.map_congr_left (fun x _ => by simp only [ab_fv, ab_w_ne mem k v h])
  simp only [ab_ent, hf, ab_w_ne mem k v h]
theorem ab_ent_row {G : ab_G} {sh : ab_S} {rf : ab_R} {mem : ab_N} {a b : Nat} {f : Nat → Int32} (h : b ≠ a) : ab_ent G sh rf (ab_row mem a f) b = ab_ent G sh rf mem b := by
  have : ab_row mem a f b = mem b := if_neg h
  have hf : ∀ c, ab_fl G rf (ab_row mem a f) c b = ab_fl G rf mem c b := fun c => List.map_congr_left (fun x _ => by simp only [ab_fv, this])
  simp only [ab_ent, hf, this]
theorem ab_ent_wr {G : ab_G} {sh : ab_S} {rf : ab_R} {mem : ab_N} {a k b : Nat} {v : Option Nat} (h : b ≠ a) : ab_ent G sh (ab_wr rf a k v) mem b = ab_ent G sh rf mem b := by
  have hf : ∀ c, ab_fl G (ab_wr rf a k v) mem c b = ab_fl G rf mem c b := fun c => List.map_congr_left (fun x _ => by simp only [ab_fv, ab_wr_ne rf k v h])
  simp only [ab_ent, hf, ab_wr_ne rf k v h]
theorem ab_nf_lt {c k : Nat} (h : k < ab_nf c) : c < 10 := by
  rcases Nat.lt_or_ge c 10 with q | q
  · exact q
  · have : ab_fk.getD c [] = [] := by rw [List.getD_eq_getElem?_getD, List.getElem?_eq_none (by simp [ab_fk]; omega)]; rfl
    rw [ab_nf, this] at h
    exact absurd h (Nat.not_lt_zero _)
/-- an object's fields, after a write -/
theorem ab_fl_at {G : ab_G} {rf : ab_R} {mem : ab_N} {c a k : Nat} (h : k < ab_nf c) : (ab_fl G rf mem c a)[k]? = some (ab_fv G rf mem c a k) := by simp [ab_fl, h]
theorem ab_fl_setI {G : ab_G} {rf : ab_R} {mem : ab_N} {c a k : Nat} {v : Int32} (ht : ab_ft c k ≠ 1) : (ab_fl G rf mem c a).set k (.int v) = ab_fl G rf (ab_w mem a k v) c a := by
  apply List.ext_getElem?
  intro i
  rw [List.getElem?_set]
  simp only [ab_fl, List.length_map, List.length_range, List.getElem?_map]
  by_cases hi : i < ab_nf c
  · rw [List.getElem?_range hi]
    by_cases hk : k = i
    · subst hk
      simp [hi, ab_fv, ht, ab_w_self, upd]
    · have hk' : i ≠ k := fun h => hk h.symm
      simp [hk, ab_fv, ab_w_self, upd, hk']
  · rw [List.getElem?_eq_none (by simp; omega)]
    by_cases hk : k = i
    · subst hk
      simp [hi]
    · simp [hk]
theorem ab_fl_setR {G : ab_G} {rf : ab_R} {mem : ab_N} {c a k : Nat} {v : Option Nat} (ht : ab_ft c k = 1) : (ab_fl G rf mem c a).set k (ab_cvo G v) = ab_fl G (ab_wr rf a k v) mem c a := by
  apply List.ext_getElem?
  intro i
  rw [List.getElem?_set]
  simp only [ab_fl, List.length_map, List.length_range, List.getElem?_map]
  by_cases hi : i < ab_nf c
  · rw [List.getElem?_range hi]
    by_cases hk : k = i
    · subst hk
      simp [hi, ab_fv, ht, ab_wr_self, va_up]
    · have hk' : i ≠ k := fun h => hk h.symm
      simp [hk, ab_fv, ab_wr_self, va_up, hk']
  · rw [List.getElem?_eq_none (by simp; omega)]
    by_cases hk : k = i
    · subst hk
      simp [hi]
    · simp [hk]
/-- the locals: a return address stands for what isn't known -/
def ab_kn (v : Value) : Bool := match v with
  | .retAddr _ => false
  | _ => true
def ab_al (G : ab_G) (nL : Nat) (L : List Value) : List (Nat × Value) := (List.range nL).filterMap (fun i => (L[i]?).bind (fun v => if ab_kn v = true then some (i, ab_cv G v) else none))
theorem ab_al_mem {G : ab_G} {nL : Nat} {L : List Value} {q : Nat × Value} : q ∈ ab_al G nL L ↔ ∃ v, q.1 < nL ∧ L[q.1]? = some v ∧ ab_kn v = true ∧ q.2 = ab_cv G v := by
  obtain ⟨i, w⟩ := q
  simp only [ab_al, List.mem_filterMap, List.mem_range, Option.bind_eq_some_iff]
  constructor
  · rintro ⟨j, hj, v, hv, h⟩
    split at h
    · rename_i hk
      cases h
      exact ⟨v, hj, hv, hk, rfl⟩
    · cases h
  · rintro ⟨v, hj, hv, hk, rfl⟩
    exact ⟨i, hj, v, hv, by simp [hk]⟩
def ab_lv (G : ab_G) (ls : Array Slot) (nL : Nat) (L : List Value) : Prop := L.length ≤ nL ∧ lv_has ls nL (ab_al G nL L)
theorem ab_lv_at {G : ab_G} {ls : Array Slot} {nL : Nat} {L : List Value} (h : ab_lv G ls nL L) {i : Nat} {v : Value} (hv : L[i]? = some v) (hk : ab_kn v = true) : ls[i]? = some (.val (ab_cv G v)) := by
  have hi : i < L.length := (List.getElem?_eq_some_iff.mp hv).1
  exact h.2.2.2 (i, ab_cv G v) (ab_al_mem.mpr ⟨v, Nat.lt_of_lt_of_le hi h.1, hv, hk, rfl⟩)
theorem ab_cat (G : ab_G) (v : Value) : (ab_cv G v).category = v.category := by cases v <;> rfl
/-- no long stands just ahead of the place -/
def ab_nl (L : List Value) (i : Nat) : Bool := match i with
  | 0 => true
  | j + 1 => match L[j]? with
    | some (.long _) => false
    | some (.double _) => false
    | _ => true
theorem ab_nl_spec {L : List Value} {i : Nat} (h : ab_nl L i = true) {j : Nat} {v : Value} (hj : j + 1 = i) (hv : L[j]? = some v) : v.category ≠ 2 := by
  subst hj
  unfold ab_nl at h
  simp only [hv] at h
  cases v <;> simp [Value.category] at h ⊢
theorem ab_lv_st1 {G : ab_G} {ls' : Array Slot} {nL i : Nat} {L : List Value} {v : Value} (hlen : L.length ≤ nL) (hn : ab_nl L i = true) (h : lv_has ls' nL ((i, ab_cv G v) :: (ab_al G nL L).filter (fun q => !(q.1 == i) && !(q.1 + 1 == i && q.2.category == 2)))) : ab_lv G ls' nL (L.set i v) := by
  refine ⟨by simpa using hlen, h.1, h.2.1, fun q hq => ?_⟩
  obtain ⟨w, h1, h2, h3, h4⟩ := ab_al_mem.mp hq
  rw [List.getElem?_set] at h2
  by_cases hi : i = q.1
  · rw [if_pos hi] at h2
    split at h2
    · cases h2
      have : q = (i, ab_cv G v) := by rw [hi, ← h4]
      rw [this]
      exact h.2.2 _ (List.mem_cons_self)
    · cases h2
  · rw [if_neg hi] at h2
    refine h.2.2 q (List.mem_cons_of_mem _ (List.mem_filter.mpr ⟨ab_al_mem.mpr ⟨w, h1, h2, h3, h4⟩, ?_⟩))
    have hne : ¬ (q.1 = i) := fun e => hi e.symm
    have hc : ¬ (q.1 + 1 = i ∧ q.2.category = 2) := fun e => ab_nl_spec hn e.1 h2 (by rw [← ab_cat G, ← h4]; exact e.2)
    simp [hne]
    exact Decidable.not_and_iff_or_not.mp hc
theorem ab_lv_st2 {G : ab_G} {ls' : Array Slot} {nL i : Nat} {L : List Value} {v : Value} (hlen : L.length ≤ nL) (hn : ab_nl L i = true) (h : lv_has ls' nL ((i, ab_cv G v) :: (ab_al G nL L).filter (fun q => !(q.1 == i) && (!(q.1 == i + 1) && !(q.1 + 1 == i && q.2.category == 2))))) : ab_lv G ls' nL ((L.set i v).set (i + 1) (.retAddr 0)) := by
  refine ⟨by simpa using hlen, h.1, h.2.1, fun q hq => ?_⟩
  obtain ⟨w, h1, h2, h3, h4⟩ := ab_al_mem.mp hq
  rw [List.getElem?_set] at h2
  by_cases hj : i + 1 = q.1
  · rw [if_pos hj] at h2
    split at h2
    · cases h2; simp [ab_kn] at h3
    · cases h2
  rw [if_neg hj, List.getElem?_set] at h2
  by_cases hi : i = q.1
  · rw [if_pos hi] at h2
    split at h2
    · cases h2
      have : q = (i, ab_cv G v) := by rw [hi, ← h4]
      rw [this]
      exact h.2.2 _ (List.mem_cons_self)
    · cases h2
  · rw [if_neg hi] at h2
    refine h.2.2 q (List.mem_cons_of_mem _ (List.mem_filter.mpr ⟨ab_al_mem.mpr ⟨w, h1, h2, h3, h4⟩, ?_⟩))
    have hne : ¬ (q.1 = i) := fun e => hi e.symm
    have hne2 : ¬ (q.1 = i + 1) := fun e => hj e.symm
    have hc : ¬ (q.1 + 1 = i ∧ q.2.category = 2) := fun e => ab_nl_spec hn e.1 h2 (by rw [← ab_cat G, ← h4]; exact e.2)
    simp [hne, hne2]
    exact Decidable.not_and_iff_or_not.mp hc
