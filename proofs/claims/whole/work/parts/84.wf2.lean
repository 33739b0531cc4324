/-! PURE: what is read is well formed, by steps -/
theorem op_sg {c : Int32} (h : opOf c ≠ 0) : ∃ i, i < 9 ∧ opOf c = sgR i := by
  unfold opOf at h ⊢
  split
  · exact ⟨0, by decide, by decide⟩
  · split
    · exact ⟨1, by decide, by decide⟩
    · split
      · exact ⟨2, by decide, by decide⟩
      · split
        · exact ⟨3, by decide, by decide⟩
        · split
          · exact ⟨4, by decide, by decide⟩
          · split
            · exact ⟨5, by decide, by decide⟩
            · split
              · exact ⟨6, by decide, by decide⟩
              · split
                · exact ⟨7, by decide, by decide⟩
                · split
                  · exact ⟨8, by decide, by decide⟩
                  · exfalso; apply h; simp [*]
theorem stl_mem {r : Nat} : ∀ (st cd : List Int32) (x : Int32), x ∈ (stl r cd st).1 → x ∈ cd ∨ x ∈ st
  | [], cd, x, h => Or.inl h
  | o :: st, cd, x, h => by
    rw [stl] at h
    split at h
    · rcases stl_mem st (cd ++ [o]) x h with z | z
      · rcases List.mem_append.mp z with y | y
        · exact Or.inl y
        · exact Or.inr (by rw [List.mem_singleton.mp y]; exact List.mem_cons_self)
      · exact Or.inr (List.mem_cons_of_mem _ z)
    · exact Or.inl h
theorem opL_ne {st : List Int32} (h : opL st) : ∀ x ∈ st, x ≠ 10002 := fun x hx => by
  rcases h x hx with e | e | ⟨i, hi, e⟩
  · rw [e]; decide
  · rw [e]; decide
  · rw [e]; exact (show ∀ i, i < 9 → sgR i ≠ 10002 by decide +kernel) i hi
def WFM (key : Nat) (M : PM) : Prop := opL M.st ∧ okL 0 M.cd ∧ dpL 0 M.cd = bins M.st + (if M.w = true then 0 else 1) ∧ (key ≠ 0 → ∀ x ∈ M.cd, x ≠ 10002)
theorem wfm_on {tp : Row} {L key : Nat} (ht : ∀ j, ∃ q, q < 256 ∧ tp j = nI q) {M M1 : PM} (h : stp tp L key M = some M1) (hm : WFM key M) : WFM key M1 := by
  obtain ⟨a, b, c, e⟩ := hm
  unfold stp at h
  split at h
  · rename_i hw
    rw [if_pos hw] at c
    split at h
    · simp only [Option.some.injEq] at h
      subst h
      refine ⟨fun o ho => ?_, b, ?_, e⟩
      · rcases List.mem_cons.mp ho with z | z
        · exact Or.inl z
        · exact a o z
      · show dpL 0 M.cd = bins (-10 :: M.st) + 0
        rw [c]; simp [bins]
    · split at h
      · simp only [Option.some.injEq] at h
        subst h
        refine ⟨fun o ho => ?_, b, ?_, e⟩
        · rcases List.mem_cons.mp ho with z | z
          · exact Or.inr (Or.inl z)
          · exact a o z
        · show dpL 0 M.cd = bins (-11 :: M.st) + 0
          rw [c]; simp [bins]
      · split at h
        · rename_i v hv
          simp only [Option.some.injEq] at h
          subst h
          have rg := (prt_rg ht hv).1
          have v0 : (0 : Int32) ≤ v := by
            rcases rg with ⟨n, hn, z⟩ | ⟨n, hn, z, _⟩
            · rw [z]; exact nI_pos' (by omega)
            · rw [z]; exact nI_pos' (by omega)
          have ok : okL 0 (M.cd ++ [v]) := by
            rw [okL_app]
            refine ⟨b, ?_, trivial⟩
            rcases rg with ⟨n, hn, z⟩ | ⟨n, hn, z, _⟩
            · exact Or.inl ⟨n, hn, z⟩
            · exact Or.inr (Or.inl ⟨n, hn, z⟩)
          have dp : dpL 0 (M.cd ++ [v]) = bins M.st + 1 := by
            rw [dpL_app, c]
            show tp1 v (bins M.st + 0) = _
            unfold tp1
            rw [if_pos v0]
          obtain ⟨x1, x2, x3⟩ := stl_wf (r := 6) M.st (M.cd ++ [v]) a ok dp
          refine ⟨x3, x1, x2, fun hk x hx => ?_⟩
          rcases stl_mem _ _ x hx with z | z
          · rcases List.mem_append.mp z with y | y
            · exact e hk x y
            · rw [List.mem_singleton.mp y]
              rcases rg with ⟨n, hn, z⟩ | ⟨n, hn, z, z2⟩
              · rw [z]; exact fun q => by have := ixe (j := 10002) q (by omega) (by decide); omega
              · have := z2 hk
                rw [z]; exact fun q => by have := ixe (j := 10002) q (by omega) (by decide); omega
          · exact opL_ne a x z
        · cases h
  · rename_i hw
    rw [if_neg hw] at c
    split at h
    · cases h
    · split at h
      · rename_i q
        simp only [Option.some.injEq] at h
        subst h
        obtain ⟨x1, x2, x3⟩ := stl_wf (r := 0) M.st M.cd a b c
        obtain ⟨rest, e1, e2⟩ := stl_0 M.st M.cd q.2
        rw [e1] at x2 x3
        have b1 : bins (-11 :: rest) = bins rest := by simp [bins]
        rw [b1] at x2
        obtain ⟨y1, y2, y3⟩ := stl_wf (r := 6) rest (stl 0 M.cd M.st).1 (fun o ho => x3 o (List.mem_cons_of_mem _ ho)) x1 x2
        have et : (stl 0 M.cd M.st).2.tail = rest := by rw [e1]; rfl
        rw [← et] at y1 y2 y3
        refine ⟨y3, y1, y2, fun hk x hx => ?_⟩
        rcases stl_mem _ _ x hx with z | z
        · rcases stl_mem _ _ x z with y | y
          · exact e hk x y
          · exact opL_ne a x y
        · rw [et] at z
          exact opL_ne (fun o ho => x3 o (List.mem_cons_of_mem _ ho)) x z
      · split at h
        · cases h
        · rename_i q
          simp only [Option.some.injEq] at h
          subst h
          have ho : opOf (tsg tp L M.s) ≠ 0 := fun z => q (Or.inl z)
          obtain ⟨i, hi, eo⟩ := op_sg ho
          obtain ⟨_, n10, n11⟩ := op_lt6 ho
          obtain ⟨x1, x2, x3⟩ := stl_wf (r := rkS (opOf (tsg tp L M.s))) M.st M.cd a b c
          refine ⟨fun o ho => ?_, x1, ?_, fun hk x hx => ?_⟩
          · rcases List.mem_cons.mp ho with z | z
            · exact Or.inr (Or.inr ⟨i, hi, z.trans eo⟩)
            · exact x3 o z
          · show dpL 0 _ = bins (opOf (tsg tp L M.s) :: _) + 0
            rw [x2]; simp [bins, n10, n11]
          · rcases stl_mem _ _ x hx with z | z
            · exact e hk x z
            · exact opL_ne a x z
theorem done_wf {tp : Row} {L key : Nat} (ht : ∀ j, ∃ q, q < 256 ∧ tp j = nI q) {M : PM} (h : DoneP tp L key M) : okL 0 (M.cd ++ M.st) ∧ dpL 0 (M.cd ++ M.st) = 1 ∧ (key ≠ 0 → ∀ x ∈ M.cd ++ M.st, x ≠ 10002) := by
  obtain ⟨hr, hw, _, hP⟩ := h
  have w0 : WFM key (M0 tp L) := ⟨fun o ho => absurd ho List.not_mem_nil, trivial, rfl, fun _ x hx => absurd hx List.not_mem_nil⟩
  have wm : WFM key M := Rch.ind (motive := fun A B => WFM key A → WFM key B) (fun _ g => g) (fun A A1 B a _ ih g => ih (wfm_on ht a g)) hr w0
  obtain ⟨a, b, c, e⟩ := wm
  rw [hw] at c
  obtain ⟨x1, x2, _⟩ := stl_wf (r := 0) M.st M.cd a b c
  have es := stl_all (r := 0) (st := []) (fun o rest e => by cases e) M.st M.cd (fun o ho => ⟨(hP o ho).1, Nat.zero_le _⟩)
  rw [List.append_nil] at es
  rw [es] at x1 x2
  refine ⟨x1, x2, fun hk x hx => ?_⟩
  rcases List.mem_append.mp hx with z | z
  · exact e hk x z
  · exact opL_ne a x z
