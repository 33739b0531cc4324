/-! THE CLASS'S OBJECT, MADE -/
theorem isK {sh : ab_S} {nx a c : Nat} (h : (Nat.blt a nx && Nat.beq (sh a).1 c) = true) : ab_is sh nx a c := by
  simp only [Bool.and_eq_true] at h
  exact ⟨by simpa using h.1, Nat.eq_of_beq_eq_true h.2⟩
def shZ : ab_S := fun _ => (0, 0)
def rfZ : ab_R := fun _ _ => none
def mZ : ab_N := fun _ _ => 0
def Hi (b : Nat) (rf : ab_R) : Prop := ∀ a k, b ≤ k → rf a k = none
theorem hi_z {b : Nat} : Hi b rfZ := fun _ _ _ => rfl
theorem hi_rz {b a : Nat} {rf : ab_R} (h : Hi b rf) : Hi b (ab_rz rf a) := fun q k hk => by
  unfold ab_rz
  by_cases e : q = a
  · rw [if_pos e]
  · rw [if_neg e]; exact h q k hk
theorem hi_wr {b a j : Nat} {v : Option Nat} {rf : ab_R} (h : Hi b rf) (hj : j < b) : Hi b (ab_wr rf a j v) := fun q k hk => by
  unfold ab_wr va_up
  by_cases e : q = a
  · rw [if_pos e, if_neg (by omega)]; exact h a k hk
  · rw [if_neg e]; exact h q k hk
theorem rfS_hi (a k : Nat) (h : 40 ≤ k) : rfS a k = none := by
  unfold rfS
  have : (rfL.getD a []).length ≤ 40 := by
    rcases Nat.lt_or_ge a 126 with g | g
    · exact (show ∀ a, a < 126 → (rfL.getD a []).length ≤ 40 by decide +kernel) a g
    · rw [List.getD_eq_getElem?_getD, List.getElem?_eq_none (show rfL.length ≤ a by exact Nat.le_trans (by decide +kernel) g)]; decide
  rw [List.getD_eq_getElem?_getD, List.getElem?_eq_none (by omega)]; rfl
theorem hi_wl {b A n : Nat} {rf : ab_R} (h : Hi b rf) (hb : 8 < b) : ∀ i, i ≤ 8 → Hi b (wlR rf A n i)
  | 0, _ => h
  | i + 1, hi => hi_wr (hi_wr (hi_rz (hi_rz (hi_wl h hb i (by omega)))) (by omega)) (by rw [cl_nI (by omega)]; omega)
theorem hi_wd {b w L n : Nat} {rf : ab_R} (h : Hi b rf) (hb : 9 < b) : Hi b (wdR rf w L n) := hi_wr (hi_wr (hi_rz (hi_wr (hi_rz h) (by omega))) (by omega)) (by omega)
theorem hi_sl {b p n : Nat} {rf : ab_R} (h : Hi b rf) (hb : 9 < b) : Hi b (slR rf p n) := hi_wr (hi_wr (hi_rz (hi_rz (hi_wr (hi_wr (hi_rz (hi_rz h)) (by omega)) (by omega)))) (by omega)) (by omega)
/-- what the class's object is when it is new -/
def XP (sh : ab_S) (rf : ab_R) (mem : ab_N) : Prop := (∀ a, a < 101 → sh a = shS a) ∧ (∀ a, a < 101 → ∀ k, k < 40 → rf a k = rfS a k) ∧ Hi 40 rf ∧ (mem 0 5 = 0 ∧ mem 0 7 = 0 ∧ mem 0 12 = 0) ∧ mem 62 = (fun _ => 0) ∧ mem 67 = (fun _ => 0) ∧ (∀ k, k < 11 → mem 4 k = [0, 0, 0, 50, 1, 0, 0, 1, 0, 0, -1000000005].getD k 0) ∧ (∀ k, k < 3 → mem 6 k = -1000000005) ∧ (∀ i, i < 4 → mem (shC i) 0 = -1 ∧ mem (shC i) 1 = 0 ∧ ∀ k, k < 24 → mem (shC i + 1) k = 0) ∧ ∀ i, i < 5 → mem (slC i) 0 = 0
section IX
variable {l : Launch} {G : ab_G} {ol : ab_Ol} {K : ab_K}
theorem i_X (h : ∀ sh rf mem, XP sh rf mem → K none sh rf mem 101) : ab_Cx l G ol 700 mX_init [.ref 0] (ab_sw shZ 0 (8, 0)) (ab_rz rfZ 0) (ab_row mZ 0 fun _ => 0) 1 K := by
  refine e_mX_init ⟨⟨by decide +kernel, by decide +kernel⟩, by decide +kernel, ⟨by decide +kernel, by decide +kernel⟩, ?_⟩
  refine i_La (by decide) is_nw ⟨rfl, isK (by decide +kernel), ⟨by decide +kernel, by decide +kernel⟩, by decide +kernel, isK (by decide +kernel), 1, by decide +kernel, ⟨by decide +kernel, by decide +kernel⟩, ?_⟩
  refine i_Wo (by decide) is_nw ⟨rfl, isK (by decide +kernel), ⟨by decide +kernel, by decide +kernel⟩, by decide +kernel, isK (by decide +kernel), 1, by decide +kernel, ⟨by decide +kernel, by decide +kernel⟩, ?_⟩
  refine i_Wo (by decide) is_nw ⟨rfl, isK (by decide +kernel), ⟨by decide +kernel, by decide +kernel⟩, by decide +kernel, isK (by decide +kernel), 1, by decide +kernel, ⟨by decide +kernel, by decide +kernel⟩, ?_⟩
  refine i_Wo (by decide) is_nw ⟨rfl, isK (by decide +kernel), ⟨by decide +kernel, by decide +kernel⟩, by decide +kernel, ?_⟩
  refine i_Le is_nw ⟨rfl, isK (by decide +kernel), isK (by decide +kernel), Or.inl rfl, ⟨by decide +kernel, by decide +kernel⟩, by decide +kernel, by decide +kernel, by decide +kernel, isK (by decide +kernel), isK (by decide +kernel), ⟨by decide +kernel, by decide +kernel⟩, by decide +kernel, isK (by decide +kernel), 62, by decide +kernel, ⟨by decide +kernel, by decide +kernel⟩, ?_⟩
  refine i_Re (by decide) is_nw ⟨rfl, isK (by decide +kernel), ⟨by decide +kernel, by decide +kernel⟩, by decide +kernel, by decide +kernel, by decide +kernel, isK (by decide +kernel), ⟨by decide +kernel, by decide +kernel⟩, by decide +kernel, by decide +kernel, by decide +kernel, isK (by decide +kernel), ⟨by decide +kernel, by decide +kernel⟩, by decide +kernel, by decide +kernel, by decide +kernel, isK (by decide +kernel), isK (by decide +kernel), ?_⟩
  refine h_mX_init_135 ⟨fun q => absurd q (by decide +kernel), fun _ => ⟨isK (by decide +kernel), 65, by decide +kernel, ⟨by decide +kernel, by decide +kernel⟩, by decide +kernel, ⟨by decide +kernel, by decide +kernel⟩, i_Ro (by decide) is_nw ⟨rfl, isK (by decide +kernel), isK (by decide +kernel), by unfold vp_in; decide +kernel, ?_⟩⟩⟩
  refine h_mX_init_135 ⟨fun q => absurd q (by decide +kernel), fun _ => ⟨isK (by decide +kernel), 65, by decide +kernel, ⟨by decide +kernel, by decide +kernel⟩, by decide +kernel, ⟨by decide +kernel, by decide +kernel⟩, i_Ro (by decide) is_nw ⟨rfl, isK (by decide +kernel), isK (by decide +kernel), by unfold vp_in; decide +kernel, ?_⟩⟩⟩
  refine h_mX_init_135 ⟨fun q => absurd q (by decide +kernel), fun _ => ⟨isK (by decide +kernel), 65, by decide +kernel, ⟨by decide +kernel, by decide +kernel⟩, by decide +kernel, ⟨by decide +kernel, by decide +kernel⟩, i_Ro (by decide) is_nw ⟨rfl, isK (by decide +kernel), isK (by decide +kernel), by unfold vp_in; decide +kernel, ?_⟩⟩⟩
  refine h_mX_init_135 ⟨fun q => absurd q (by decide +kernel), fun _ => ⟨isK (by decide +kernel), 65, by decide +kernel, ⟨by decide +kernel, by decide +kernel⟩, by decide +kernel, ⟨by decide +kernel, by decide +kernel⟩, i_Ro (by decide) is_nw ⟨rfl, isK (by decide +kernel), isK (by decide +kernel), by unfold vp_in; decide +kernel, ?_⟩⟩⟩
  refine h_mX_init_135 ⟨fun _ => ?_, fun q => absurd (by decide +kernel) q⟩
  refine h_mX_init_161 ⟨fun q => absurd q (by decide +kernel), fun _ => ⟨isK (by decide +kernel), 66, by decide +kernel, ⟨by decide +kernel, by decide +kernel⟩, by decide +kernel, ⟨by decide +kernel, by decide +kernel⟩, i_Sl (by decide) is_nw ⟨rfl, isK (by decide +kernel), isK (by decide +kernel), by unfold vp_in; decide +kernel, ?_⟩⟩⟩
  refine h_mX_init_161 ⟨fun q => absurd q (by decide +kernel), fun _ => ⟨isK (by decide +kernel), 66, by decide +kernel, ⟨by decide +kernel, by decide +kernel⟩, by decide +kernel, ⟨by decide +kernel, by decide +kernel⟩, i_Sl (by decide) is_nw ⟨rfl, isK (by decide +kernel), isK (by decide +kernel), by unfold vp_in; decide +kernel, ?_⟩⟩⟩
  refine h_mX_init_161 ⟨fun q => absurd q (by decide +kernel), fun _ => ⟨isK (by decide +kernel), 66, by decide +kernel, ⟨by decide +kernel, by decide +kernel⟩, by decide +kernel, ⟨by decide +kernel, by decide +kernel⟩, i_Sl (by decide) is_nw ⟨rfl, isK (by decide +kernel), isK (by decide +kernel), by unfold vp_in; decide +kernel, ?_⟩⟩⟩
  refine h_mX_init_161 ⟨fun q => absurd q (by decide +kernel), fun _ => ⟨isK (by decide +kernel), 66, by decide +kernel, ⟨by decide +kernel, by decide +kernel⟩, by decide +kernel, ⟨by decide +kernel, by decide +kernel⟩, i_Sl (by decide) is_nw ⟨rfl, isK (by decide +kernel), isK (by decide +kernel), by unfold vp_in; decide +kernel, ?_⟩⟩⟩
  refine h_mX_init_161 ⟨fun q => absurd q (by decide +kernel), fun _ => ⟨isK (by decide +kernel), 66, by decide +kernel, ⟨by decide +kernel, by decide +kernel⟩, by decide +kernel, ⟨by decide +kernel, by decide +kernel⟩, i_Sl (by decide) is_nw ⟨rfl, isK (by decide +kernel), isK (by decide +kernel), by unfold vp_in; decide +kernel, ?_⟩⟩⟩
  refine h_mX_init_161 ⟨fun _ => ?_, fun q => absurd (by decide +kernel) q⟩
  refine h _ _ _ ⟨by decide +kernel, by decide +kernel, ?_, ⟨by decide +kernel, by decide +kernel, by decide +kernel⟩, funext fun k => rfl, funext fun k => rfl, by decide +kernel, by decide +kernel, by decide +kernel, by decide +kernel⟩
  repeat (first | exact hi_z | refine hi_wr ?_ (by decide +kernel) | refine hi_rz ?_ | refine hi_wl ?_ (by decide) _ (by decide) | refine hi_wd ?_ (by decide) | refine hi_sl ?_ (by decide))
end IX
