/-! PURE: what is read is well formed -/
def dpL : Nat → List Int32 → Nat
  | t, [] => t
  | t, v :: c => dpL (tp1 v t) c
def okL : Nat → List Int32 → Prop
  | _, [] => True
  | t, v :: c => okC v t ∧ okL (tp1 v t) c
theorem dpL_app : ∀ (a b : List Int32) (t : Nat), dpL t (a ++ b) = dpL (dpL t a) b
  | [], b, t => rfl
  | v :: a, b, t => dpL_app a b (tp1 v t)
theorem okL_app : ∀ (a b : List Int32) (t : Nat), okL t (a ++ b) ↔ (okL t a ∧ okL (dpL t a) b)
  | [], b, t => ⟨fun h => ⟨trivial, h⟩, fun h => h.2⟩
  | v :: a, b, t => by
    show (okC v t ∧ okL (tp1 v t) (a ++ b)) ↔ ((okC v t ∧ okL (tp1 v t) a) ∧ okL (dpL (tp1 v t) a) b)
    rw [okL_app a b (tp1 v t)]
    exact ⟨fun h => ⟨⟨h.1, h.2.1⟩, h.2.2⟩, fun h => ⟨h.1.1, h.1.2, h.2⟩⟩
theorem wf_row {r : Row} : ∀ (n : Nat) (c : List Int32), n ≤ c.length → (∀ k, k < n → r k = c.getD k 0) → tpC r n = dpL 0 (c.take n) ∧ (okL 0 (c.take n) → wfC r n)
  | 0, c, _, _ => ⟨by rw [List.take_zero]; rfl, fun _ => trivial⟩
  | n + 1, c, hn, h => by
    obtain ⟨a, b⟩ := wf_row n c (by omega) (fun k hk => h k (by omega))
    have hn' : n < c.length := by omega
    have e : r n = c[n] := by rw [h n (by omega), List.getD_eq_getElem?_getD, List.getElem?_eq_getElem hn']; rfl
    rw [List.take_succ_eq_append_getElem hn', dpL_app]
    refine ⟨?_, fun ho => ?_⟩
    · rw [tpC, a, e]; rfl
    · rw [okL_app] at ho
      exact ⟨b ho.1, by rw [a, e]; exact ho.2.1⟩
def bins (st : List Int32) : Nat := st.countP (fun o => o != -10 && o != -11)
def opL (st : List Int32) : Prop := ∀ o ∈ st, o = -10 ∨ o = -11 ∨ ∃ i, i < 9 ∧ o = sgR i
theorem sg_neg : ∀ i, i < 9 → tp1 (sgR i) 2 = 1 ∧ sgR i ≠ -10 ∧ sgR i ≠ -11 ∧ ¬ (0 : Int32) ≤ sgR i := by decide +kernel
theorem stl_wf {r : Nat} : ∀ (st cd : List Int32), opL st → okL 0 cd → dpL 0 cd = bins st + 1 → okL 0 (stl r cd st).1 ∧ dpL 0 (stl r cd st).1 = bins (stl r cd st).2 + 1 ∧ opL (stl r cd st).2
  | [], cd, h1, h2, h3 => ⟨h2, h3, h1⟩
  | o :: st, cd, h1, h2, h3 => by
    rw [stl]
    split
    · rename_i q
      have h1' : opL st := fun x hx => h1 x (List.mem_cons_of_mem _ hx)
      rcases h1 o List.mem_cons_self with e | e | ⟨i, hi, e⟩
      · have eb : bins (o :: st) = bins st := by subst e; simp [bins]
        refine stl_wf st (cd ++ [o]) h1' ?_ ?_
        · rw [okL_app]; exact ⟨h2, Or.inr (Or.inr (Or.inl ⟨e, by omega⟩)), trivial⟩
        · rw [dpL_app, h3, eb]; subst e; rfl
      · exact absurd e q.1
      · obtain ⟨_, n10, n11, ng⟩ := sg_neg i hi
        have eb : bins (o :: st) = bins st + 1 := by rw [e]; simp [bins, n10, n11]
        refine stl_wf st (cd ++ [o]) h1' ?_ ?_
        · rw [okL_app]; exact ⟨h2, Or.inr (Or.inr (Or.inr ⟨i, hi, e, by omega⟩)), trivial⟩
        · rw [dpL_app, h3, eb]
          show tp1 o (bins st + 1 + 1) = _
          unfold tp1
          rw [e, if_neg ng, if_neg n10]; omega
    · exact ⟨h2, h3, h1⟩
