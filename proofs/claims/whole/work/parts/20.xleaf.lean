/-! THE CLASS, leaves -/
section XL
variable {l : Launch} {G : ab_G} {ol : ab_Ol} {d : Nat} {sh : ab_S} {rf : ab_R} {mem : ab_N} {nx : Nat} {K : ab_K}
theorem s_within {a b c : Int32} (h : K (some (.int (if b ≤ a ∧ a ≤ c then 1 else 0))) sh rf mem nx) : ab_Cx l G ol (d + 1) mX_within [.int a, .int b, .int c] sh rf mem nx K := by
  refine e_mX_within ⟨fun h1 => ⟨Or.inl rfl, ?_⟩, fun h1 => ⟨fun h2 => ⟨Or.inl rfl, ?_⟩, fun h2 => ⟨Or.inr rfl, ?_⟩⟩⟩
  · rw [if_neg (fun q => absurd h1 (Int32.not_lt.mpr q.1))] at h; exact h
  · rw [if_neg (fun q => absurd h2 (Int32.not_lt.mpr q.2))] at h; exact h
  · rw [if_pos ⟨Int32.not_lt.mp h1, Int32.not_lt.mp h2⟩] at h; exact h
theorem s_min {a b : Int32} (h : K (some (.int (if b < a then b else a))) sh rf mem nx) : ab_Cx l G ol (d + 1) mMa_min [.int a, .int b] sh rf mem nx K := by
  refine e_mMa_min ⟨fun h1 => ⟨trivial, ?_⟩, fun h1 => ⟨trivial, ?_⟩⟩
  · rw [if_pos h1] at h; exact h
  · rw [if_neg h1] at h; exact h
theorem s_max {a b : Int32} (h : K (some (.int (if a < b then b else a))) sh rf mem nx) : ab_Cx l G ol (d + 1) mMa_max [.int a, .int b] sh rf mem nx K := by
  refine e_mMa_max ⟨fun h1 => ⟨trivial, ?_⟩, fun h1 => ⟨trivial, ?_⟩⟩
  · rw [if_pos h1] at h; exact h
  · rw [if_neg h1] at h; exact h
theorem s_abs {a : Int32} (h : K (some (.int (if 0 ≤ a then a else -a))) sh rf mem nx) : ab_Cx l G ol (d + 1) mMa_abs [.int a] sh rf mem nx K := by
  refine e_mMa_abs ⟨fun h1 => ⟨trivial, ?_⟩, fun h1 => ⟨trivial, ?_⟩⟩
  · rw [if_pos h1] at h; exact h
  · rw [if_neg h1] at h; exact h
theorem s_held {v a b : Int32} (h : K (some (.int (if a < (if v < b then v else b) then (if v < b then v else b) else a))) sh rf mem nx) : ab_Cx l G ol (d + 2) mX_held [.int v, .int a, .int b] sh rf mem nx K := by
  refine e_mX_held ⟨by decide, s_min ⟨_, rfl, by decide, s_max ⟨_, rfl, trivial, h⟩⟩⟩
theorem s_isKind {v : Int32} (h : K (some (.int (if 0 ≤ v ∧ v ≤ 5 then 1 else 0))) sh rf mem nx) : ab_Cx l G ol (d + 2) mX_isKind [.int v] sh rf mem nx K := by
  refine e_mX_isKind ⟨by decide, s_within ⟨_, rfl, ?_, h⟩⟩
  split <;> simp
theorem s_isSheet {v : Int32} (h : K (some (.int (if 0 ≤ v ∧ v ≤ 3 then 1 else 0))) sh rf mem nx) : ab_Cx l G ol (d + 2) mX_isSheet [.int v] sh rf mem nx K := by
  refine e_mX_isSheet ⟨by decide, s_within ⟨_, rfl, ?_, h⟩⟩
  split <;> simp
theorem s_isSlot {v : Int32} (h : K (some (.int (if 0 ≤ v ∧ v ≤ 4 then 1 else 0))) sh rf mem nx) : ab_Cx l G ol (d + 2) mX_isSlot [.int v] sh rf mem nx K := by
  refine e_mX_isSlot ⟨by decide, s_within ⟨_, rfl, ?_, h⟩⟩
  split <;> simp
theorem s_isTraveller (hS : St sh rf nx) {v : Int32} (h : K (some (.int (if 0 ≤ v ∧ v ≤ mem 4 2 - 1 then 1 else 0))) sh rf mem nx) : ab_Cx l G ol (d + 2) mX_isTraveller [.ref 0, .int v] sh rf mem nx K := by
  refine e_mX_isTraveller ⟨is_of hS rfl rfl, rd_of hS rfl rfl ⟨is_of hS rfl rfl, by decide, s_within ⟨_, rfl, ?_, h⟩⟩⟩
  split <;> simp
end XL
