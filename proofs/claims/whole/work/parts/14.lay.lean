/-! THE LAYOUT behind the two constructors: which cell is what, what refers to what (by program) -/
def shL : List (Nat × Nat) := [(8, 0), (0, 0), (25, 14), (10, 96), (7, 0), (26, 8), (10, 3), (6, 0), (10, 6), (6, 0), (10, 6), (6, 0), (10, 6), (6, 0), (10, 6), (6, 0), (10, 6), (6, 0), (10, 6), (6, 0), (10, 6), (6, 0), (10, 6), (7, 0), (26, 8), (10, 3), (6, 0), (10, 6), (6, 0), (10, 6), (6, 0), (10, 6), (6, 0), (10, 6), (6, 0), (10, 6), (6, 0), (10, 6), (6, 0), (10, 6), (6, 0), (10, 6), (7, 0), (26, 8), (10, 3), (6, 0), (10, 6), (6, 0), (10, 6), (6, 0), (10, 6), (6, 0), (10, 6), (6, 0), (10, 6), (6, 0), (10, 6), (6, 0), (10, 6), (6, 0), (10, 6), (1, 0), (10, 96), (2, 0), (10, 96), (23, 4), (24, 5), (10, 60), (3, 0), (10, 24), (3, 0), (10, 24), (3, 0), (10, 24), (3, 0), (10, 24), (4, 0), (6, 0), (10, 6), (3, 0), (10, 24), (4, 0), (6, 0), (10, 6), (3, 0), (10, 24), (4, 0), (6, 0), (10, 6), (3, 0), (10, 24), (4, 0), (6, 0), (10, 6), (3, 0), (10, 24), (4, 0), (6, 0), (10, 6), (3, 0), (10, 24), (9, 0), (10, 1483), (10, 1483), (10, 1483), (10, 8), (11, 8), (11, 8), (10, 111), (10, 96), (12, 11), (10, 4), (10, 96), (10, 96), (11, 10), (10, 96), (10, 4), (10, 4), (10, 4), (10, 96), (10, 5), (10, 5), (10, 5), (10, 120), (10, 24), (10, 60)]
def rfL : List (List (Option Nat)) := [[some 1, some 4, some 23, some 42, some 61, none, some 62, none, some 63, some 65, some 66, some 67], [some 2, some 3], [], [], [some 1, some 5, none, none, none, none, none, none, none, some 6], [some 7, some 9, some 11, some 13, some 15, some 17, some 19, some 21], [], [none, none, none, none, none, none, none, some 8], [], [none, none, none, none, none, none, none, some 10], [], [none, none, none, none, none, none, none, some 12], [], [none, none, none, none, none, none, none, some 14], [], [none, none, none, none, none, none, none, some 16], [], [none, none, none, none, none, none, none, some 18], [], [none, none, none, none, none, none, none, some 20], [], [none, none, none, none, none, none, none, some 22], [], [some 1, some 24, none, none, none, none, none, none, none, some 25], [some 26, some 28, some 30, some 32, some 34, some 36, some 38, some 40], [], [none, none, none, none, none, none, none, some 27], [], [none, none, none, none, none, none, none, some 29], [], [none, none, none, none, none, none, none, some 31], [], [none, none, none, none, none, none, none, some 33], [], [none, none, none, none, none, none, none, some 35], [], [none, none, none, none, none, none, none, some 37], [], [none, none, none, none, none, none, none, some 39], [], [none, none, none, none, none, none, none, some 41], [], [some 1, some 43, none, none, none, none, none, none, none, some 44], [some 45, some 47, some 49, some 51, some 53, some 55, some 57, some 59], [], [none, none, none, none, none, none, none, some 46], [], [none, none, none, none, none, none, none, some 48], [], [none, none, none, none, none, none, none, some 50], [], [none, none, none, none, none, none, none, some 52], [], [none, none, none, none, none, none, none, some 54], [], [none, none, none, none, none, none, none, some 56], [], [none, none, none, none, none, none, none, some 58], [], [none, none, none, none, none, none, none, some 60], [], [], [], [some 62, some 64], [], [some 68, some 70, some 72, some 74], [some 76, some 81, some 86, some 91, some 96], [], [none, none, some 69], [], [none, none, some 71], [], [none, none, some 73], [], [none, none, some 75], [], [none, none, some 77, some 79], [none, none, none, none, none, none, none, some 78], [], [none, none, some 80], [], [none, none, some 82, some 84], [none, none, none, none, none, none, none, some 83], [], [none, none, some 85], [], [none, none, some 87, some 89], [none, none, none, none, none, none, none, some 88], [], [none, none, some 90], [], [none, none, some 92, some 94], [none, none, none, none, none, none, none, some 93], [], [none, none, some 95], [], [none, none, some 97, some 99], [none, none, none, none, none, none, none, some 98], [], [none, none, some 100], [], [some 102, some 103, some 104, none, none, some 105, some 106, some 107, some 108, some 109, none, none, none, none, none, none, none, some 110, some 111, some 112, none, none, some 113, none, some 114, some 115, some 116, some 117, some 118, some 119, some 120, some 121, some 122, some 123, some 124, some 125], [], [], [], [], [], [], [], [], [], [], [], [], [], [], [], [], [], [], [], [], [], [], [], []]
def shS (a : Nat) : Nat × Nat := shL.getD a (0, 0)
def rfS (a k : Nat) : Option Nat := (rfL.getD a []).getD k none
/-- the cells that the constructors make are there; but for the row of texts nothing refers otherwise -/
def St (sh : ab_S) (rf : ab_R) (nx : Nat) : Prop := 126 ≤ nx ∧ nx ≤ 1000 ∧ (∀ a, a < 126 → sh a = shS a) ∧ ∀ a k, a < 126 → a ≠ 2 → rf a k = rfS a k
section LAY
variable {sh : ab_S} {rf : ab_R} {nx : Nat}
theorem is_of (h : St sh rf nx) {a c : Nat} (ha : Nat.blt a 126 = true) (hc : (shS a).1 = c) : ab_is sh nx a c := by
  have ha : a < 126 := by simpa using ha
  exact ⟨Nat.lt_of_lt_of_le ha h.1, by rw [h.2.2.1 a ha]; exact hc⟩
theorem rd_of (h : St sh rf nx) {a k b : Nat} {K : Nat → Prop} (ha : (Nat.blt a 126 && !(Nat.beq a 2)) = true) (hb : rfS a k = some b) (hk : K b) : ab_rd (rf a k) K := by
  simp at ha
  exact ⟨b, by rw [h.2.2.2 a k ha.1 (Nat.ne_of_beq_eq_false ha.2)]; exact hb, hk⟩
theorem sh_of (h : St sh rf nx) {a n : Nat} (ha : Nat.blt a 126 = true) (hc : (shS a).2 = n) : (sh a).2 = n := by
  have ha : a < 126 := by simpa using ha
  rw [h.2.2.1 a ha]; exact hc
theorem in_of (h : St sh rf nx) {a n : Nat} {i : Int32} (ha : Nat.blt a 126 = true) (hc : (shS a).2 = n) (hi : vp_in i n) : vp_in i (sh a).2 := by rw [sh_of h ha hc]; exact hi
/-- worlds -/
def Wd (w : Nat) : Prop := w = 4 ∨ w = 23 ∨ w = 42
theorem wd_lt {w : Nat} (hw : Wd w) : w + 18 < 126 := by rcases hw with rfl | rfl | rfl <;> omega
theorem wd_is (h : St sh rf nx) {w : Nat} (hw : Wd w) : ab_is sh nx w 7 := by rcases hw with rfl | rfl | rfl <;> exact is_of h rfl rfl
theorem wd_rd0 (h : St sh rf nx) {w : Nat} (hw : Wd w) {K : Nat → Prop} (hk : K 1) : ab_rd (rf w 0) K := by rcases hw with rfl | rfl | rfl <;> exact rd_of h rfl rfl hk
theorem wd_rd1 (h : St sh rf nx) {w : Nat} (hw : Wd w) {K : Nat → Prop} (hk : K (w + 1)) : ab_rd (rf w 1) K := by rcases hw with rfl | rfl | rfl <;> exact rd_of h rfl rfl hk
theorem wd_rd9 (h : St sh rf nx) {w : Nat} (hw : Wd w) {K : Nat → Prop} (hk : K (w + 2)) : ab_rd (rf w 9) K := by rcases hw with rfl | rfl | rfl <;> exact rd_of h rfl rfl hk
theorem wd_is1 (h : St sh rf nx) {w : Nat} (hw : Wd w) : ab_is sh nx (w + 1) 26 := by rcases hw with rfl | rfl | rfl <;> exact is_of h rfl rfl
theorem wd_is2 (h : St sh rf nx) {w : Nat} (hw : Wd w) : ab_is sh nx (w + 2) 10 := by rcases hw with rfl | rfl | rfl <;> exact is_of h rfl rfl
theorem wd_in1 (h : St sh rf nx) {w : Nat} (hw : Wd w) {i : Int32} (hi : vp_in i 8) : vp_in i (sh (w + 1)).2 := by rcases hw with rfl | rfl | rfl <;> exact in_of h rfl rfl hi
theorem wd_in2 (h : St sh rf nx) {w : Nat} (hw : Wd w) {i : Int32} (hi : vp_in i 3) : vp_in i (sh (w + 2)).2 := by rcases hw with rfl | rfl | rfl <;> exact in_of h rfl rfl hi
theorem wd_tr0 : ∀ i, i < 8 → rfS 5 i = some (7 + 2 * i) ∧ rfS 24 i = some (26 + 2 * i) ∧ rfS 43 i = some (45 + 2 * i) := by decide +kernel
theorem wd_rdt (h : St sh rf nx) {w i : Nat} (hw : Wd w) (hi : i < 8) {K : Nat → Prop} (hk : K (w + 3 + 2 * i)) : ab_rd (rf (w + 1) i) K := by
  have h0 := wd_tr0 i hi
  rcases hw with rfl | rfl | rfl
  · exact rd_of h rfl h0.1 hk
  · exact rd_of h rfl h0.2.1 hk
  · exact rd_of h rfl h0.2.2 hk
/-- travellers, with their claims in the cell behind them; rows, with their places -/
def Td (t : Nat) : Prop := (shS t).1 = 6 ∧ t < 126
def Rd (r : Nat) : Prop := (shS r).1 = 3 ∧ r < 126
theorem td_0 : ∀ t, t < 126 → (shS t).1 = 6 → t + 1 < 126 ∧ shS (t + 1) = (10, 6) ∧ rfS t 7 = some (t + 1) := by decide +kernel
theorem rd_0 : ∀ t, t < 126 → (shS t).1 = 3 → t + 1 < 126 ∧ shS (t + 1) = (10, 24) ∧ rfS t 2 = some (t + 1) := by decide +kernel
theorem td_is (h : St sh rf nx) {t : Nat} (ht : Td t) : ab_is sh nx t 6 := ⟨Nat.lt_of_lt_of_le ht.2 h.1, by rw [h.2.2.1 t ht.2]; exact ht.1⟩
theorem td_is1 (h : St sh rf nx) {t : Nat} (ht : Td t) : ab_is sh nx (t + 1) 10 := by
  have h0 := td_0 t ht.2 ht.1
  exact ⟨Nat.lt_of_lt_of_le h0.1 h.1, by rw [h.2.2.1 _ h0.1, h0.2.1]⟩
theorem td_sh1 (h : St sh rf nx) {t : Nat} (ht : Td t) : (sh (t + 1)).2 = 6 := by
  have h0 := td_0 t ht.2 ht.1
  rw [h.2.2.1 _ h0.1, h0.2.1]
theorem td_in (h : St sh rf nx) {t : Nat} (ht : Td t) {i : Int32} (hi : vp_in i 6) : vp_in i (sh (t + 1)).2 := by rw [td_sh1 h ht]; exact hi
theorem td_rd (h : St sh rf nx) {t : Nat} (ht : Td t) {K : Nat → Prop} (hk : K (t + 1)) : ab_rd (rf t 7) K := by
  have h0 := td_0 t ht.2 ht.1
  exact ⟨t + 1, by rw [h.2.2.2 t 7 ht.2 (by intro e; subst e; exact absurd ht.1 (by decide))]; exact h0.2.2, hk⟩
theorem rd_is (h : St sh rf nx) {t : Nat} (ht : Rd t) : ab_is sh nx t 3 := ⟨Nat.lt_of_lt_of_le ht.2 h.1, by rw [h.2.2.1 t ht.2]; exact ht.1⟩
theorem rd_is1 (h : St sh rf nx) {t : Nat} (ht : Rd t) : ab_is sh nx (t + 1) 10 := by
  have h0 := rd_0 t ht.2 ht.1
  exact ⟨Nat.lt_of_lt_of_le h0.1 h.1, by rw [h.2.2.1 _ h0.1, h0.2.1]⟩
theorem rd_sh1 (h : St sh rf nx) {t : Nat} (ht : Rd t) : (sh (t + 1)).2 = 24 := by
  have h0 := rd_0 t ht.2 ht.1
  rw [h.2.2.1 _ h0.1, h0.2.1]
theorem rd_in (h : St sh rf nx) {t : Nat} (ht : Rd t) {i : Int32} (hi : vp_in i 24) : vp_in i (sh (t + 1)).2 := by rw [rd_sh1 h ht]; exact hi
theorem rd_rd (h : St sh rf nx) {t : Nat} (ht : Rd t) {K : Nat → Prop} (hk : K (t + 1)) : ab_rd (rf t 2) K := by
  have h0 := rd_0 t ht.2 ht.1
  exact ⟨t + 1, by rw [h.2.2.2 t 2 ht.2 (by intro e; subst e; exact absurd ht.1 (by decide))]; exact h0.2.2, hk⟩
theorem wd_td {w i : Nat} (hw : Wd w) (hi : i < 8) : Td (w + 3 + 2 * i) := by
  have : ∀ i, i < 8 → (shS (7 + 2 * i)).1 = 6 ∧ (shS (26 + 2 * i)).1 = 6 ∧ (shS (45 + 2 * i)).1 = 6 := by decide +kernel
  have h := this i hi
  rcases hw with rfl | rfl | rfl
  · exact ⟨h.1, by omega⟩
  · exact ⟨h.2.1, by omega⟩
  · exact ⟨h.2.2, by omega⟩
end LAY
theorem w_eq (mem : ab_N) (a k : Nat) (v : Int32) : ab_w mem a k v a k = v := by simp [ab_w, upd]
theorem w_ne (mem : ab_N) {a k b j : Nat} (v : Int32) (h : b ≠ a ∨ j ≠ k) : ab_w mem a k v b j = mem b j := by
  unfold ab_w
  by_cases hb : b = a
  · subst hb
    rw [if_pos rfl]
    have hj : j ≠ k := by rcases h with h | h; exact absurd rfl h; exact h
    simp [upd, hj]
  · rw [if_neg hb]
theorem cl_nI {n : Nat} (h : n < 2 ^ 31) : Int32.toNatClampNeg (nI n) = n := nI_clamp h
