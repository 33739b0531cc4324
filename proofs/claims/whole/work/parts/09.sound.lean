/-! THE SMALL MACHINE, part 6: what the words of a step say -/
theorem ab_i1_sp {st : List Value} {k : Int32 → List Value → Prop} (h : ab_i1 st k) : ∃ a r, st = .int a :: r ∧ k a r := by
  unfold ab_i1 at h; split at h
  · exact ⟨_, _, rfl, h⟩
  · exact h.elim
theorem ab_i2_sp {st : List Value} {k : Int32 → Int32 → List Value → Prop} (h : ab_i2 st k) : ∃ a b r, st = .int b :: .int a :: r ∧ k a b r := by
  unfold ab_i2 at h; split at h
  · exact ⟨_, _, _, rfl, h⟩
  · exact h.elim
theorem ab_l1_sp {st : List Value} {k : Int64 → List Value → Prop} (h : ab_l1 st k) : ∃ a r, st = .long a :: r ∧ k a r := by
  unfold ab_l1 at h; split at h
  · exact ⟨_, _, rfl, h⟩
  · exact h.elim
theorem ab_l2_sp {st : List Value} {k : Int64 → Int64 → List Value → Prop} (h : ab_l2 st k) : ∃ a b r, st = .long b :: .long a :: r ∧ k a b r := by
  unfold ab_l2 at h; split at h
  · exact ⟨_, _, _, rfl, h⟩
  · exact h.elim
theorem ab_r1_sp {st : List Value} {k : Nat → List Value → Prop} (h : ab_r1 st k) : ∃ a r, st = .ref a :: r ∧ k a r := by
  unfold ab_r1 at h; split at h
  · exact ⟨_, _, rfl, h⟩
  · exact h.elim
theorem ab_ir_sp {st : List Value} {k : Int32 → Nat → List Value → Prop} (h : ab_ir st k) : ∃ i a r, st = .int i :: .ref a :: r ∧ k i a r := by
  unfold ab_ir at h; split at h
  · exact ⟨_, _, _, rfl, h⟩
  · exact h.elim
theorem ab_iir_sp {st : List Value} {k : Int32 → Int32 → Nat → List Value → Prop} (h : ab_iir st k) : ∃ x i a r, st = .int x :: .int i :: .ref a :: r ∧ k x i a r := by
  unfold ab_iir at h; split at h
  · exact ⟨_, _, _, _, rfl, h⟩
  · exact h.elim
theorem ab_rir_sp {st : List Value} {k : Nat → Int32 → Nat → List Value → Prop} (h : ab_rir st k) : ∃ x i a r, st = .ref x :: .int i :: .ref a :: r ∧ k x i a r := by
  unfold ab_rir at h; split at h
  · exact ⟨_, _, _, _, rfl, h⟩
  · exact h.elim
theorem ab_io_sp {st : List Value} {k : Int32 → Nat → List Value → Prop} (h : ab_io st k) : ∃ x a r, st = .int x :: .ref a :: r ∧ k x a r := by
  unfold ab_io at h; split at h
  · exact ⟨_, _, _, rfl, h⟩
  · exact h.elim
theorem ab_ro_sp {st : List Value} {k : Nat → Nat → List Value → Prop} (h : ab_ro st k) : ∃ x a r, st = .ref x :: .ref a :: r ∧ k x a r := by
  unfold ab_ro at h; split at h
  · exact ⟨_, _, _, rfl, h⟩
  · exact h.elim
theorem ab_cp_sp {st : List Value} {k : Int32 → Int32 → Nat → Int32 → Nat → List Value → Prop} (h : ab_cp st k) : ∃ n dp d sp a r, st = .int n :: .int dp :: .ref d :: .int sp :: .ref a :: r ∧ k n dp d sp a r := by
  unfold ab_cp at h; split at h
  · exact ⟨_, _, _, _, _, _, rfl, h⟩
  · exact h.elim
theorem ab_o1_sp {o : List Nat} {k : Nat → Prop} (h : ab_o1 o k) : ∃ a r, o = a :: r ∧ k a := by
  unfold ab_o1 at h; split at h
  · exact ⟨_, _, rfl, h⟩
  · exact h.elim
theorem ab_o2_sp {o : List Nat} {k : Nat → Nat → Prop} (h : ab_o2 o k) : ∃ a b r, o = a :: b :: r ∧ k a b := by
  unfold ab_o2 at h; split at h
  · exact ⟨_, _, _, rfl, h⟩
  · exact h.elim
theorem ab_o4_sp {o : List Nat} {k : Nat → Nat → Nat → Nat → Prop} (h : ab_o4 o k) : ∃ a b c d r, o = a :: b :: c :: d :: r ∧ k a b c d := by
  unfold ab_o4 at h; split at h
  · exact ⟨_, _, _, _, _, rfl, h⟩
  · exact h.elim
theorem ab_v1_sp {o : List Int32} {k : Int32 → Prop} (h : ab_v1 o k) : ∃ a r, o = a :: r ∧ k a := by
  unfold ab_v1 at h; split at h
  · exact ⟨_, _, rfl, h⟩
  · exact h.elim
theorem ab_li_sp {L : List Value} {i : Nat} {k : Int32 → Prop} (h : ab_li L i k) : ∃ x, L[i]? = some (.int x) ∧ k x := by
  unfold ab_li at h; split at h
  · exact ⟨_, by assumption, h⟩
  · exact h.elim
theorem ab_ll_sp {L : List Value} {i : Nat} {k : Int64 → Prop} (h : ab_ll L i k) : ∃ x, L[i]? = some (.long x) ∧ k x := by
  unfold ab_ll at h; split at h
  · exact ⟨_, by assumption, h⟩
  · exact h.elim
theorem ab_la_sp {L : List Value} {i : Nat} {k : Nat → Prop} (h : ab_la L i k) : ∃ x, L[i]? = some (.ref x) ∧ k x := by
  unfold ab_la at h; split at h
  · exact ⟨_, by assumption, h⟩
  · exact h.elim
theorem ab_so_sp {L : List Value} {i : Nat} {v : Value} {k : List Value → Prop} (h : ab_so L i v k) : ab_nl L i = true ∧ i < L.length ∧ k (L.set i v) := by
  unfold ab_so at h; split at h
  · rename_i hb
    simp only [Bool.and_eq_true, Nat.blt_eq] at hb
    exact ⟨hb.1, hb.2, h⟩
  · exact h.elim
theorem ab_so2_sp {L : List Value} {i : Nat} {v : Value} {k : List Value → Prop} (h : ab_so2 L i v k) : ab_nl L i = true ∧ i + 1 < L.length ∧ k ((L.set i v).set (i + 1) (.retAddr 0)) := by
  unfold ab_so2 at h; split at h
  · rename_i hb
    simp only [Bool.and_eq_true, Nat.blt_eq] at hb
    exact ⟨hb.1, hb.2, h⟩
  · exact h.elim
theorem ab_ok8_sp {r : List Value} {A : Prop} (h : ab_ok8 r A) : (r.map fun v => v.category).sum ≤ 8 ∧ A := by
  unfold ab_ok8 at h; split at h
  · rename_i hb
    exact ⟨Nat.le_of_ble_eq_true hb, h⟩
  · exact h.elim
theorem ab_recv_sp {st : List Value} {n : Nat} {k : Nat → List Value → List Value → Prop} (h : ab_recv st n k) : ∃ b rest, st = (st.take n) ++ .ref b :: rest ∧ k b (.ref b :: (st.take n).reverse) rest := by
  unfold ab_recv at h; split at h
  · rename_i b rest hb
    exact ⟨b, rest, by rw [← hb, List.take_append_drop], h⟩
  · exact h.elim
theorem ab_sum (G : ab_G) (r : List Value) : ((r.map (ab_cv G)).map fun v => v.category).sum = (r.map fun v => v.category).sum := by
  rw [List.map_map]
  congr 1
  apply List.map_congr_left
  intro v _
  exact ab_cat G v
theorem ab_rv_sp {t : Nat} {rest : List Value} {k : List Value → ab_S → ab_R → ab_N → Nat → Prop} {r : Option Value} {sh : ab_S} {rf : ab_R} {mem : ab_N} {nx : Nat} (h : ab_rv t rest k r sh rf mem nx) : k (r.toList ++ rest) sh rf mem nx := by
  unfold ab_rv at h
  split at h
  · obtain ⟨rfl, h⟩ := h; exact h
  · obtain ⟨x, rfl, h⟩ := h; exact h
  · obtain ⟨x, rfl, h⟩ := h; exact h
  · obtain ⟨x, rfl, h⟩ := h; exact h
