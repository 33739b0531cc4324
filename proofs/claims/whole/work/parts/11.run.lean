/-! THE SMALL MACHINE, part 8: many steps -/
theorem ab_sound {l : Launch} {G : ab_G} {ol : ab_Ol} {d mi bc bs : Nat} {T : List ab_E} {Rt : ab_Rt} {stops : List Nat} (hT : ab_ok mi T) : ∀ (k pc : Nat) (L st : List Value) (sh : ab_S) (rf : ab_R) (mem : ab_N) (nx cu su : Nat),
    ab_wp (ab_Cx l G ol d) Rt ol bc bs T (ab_Go l G ol d mi bc bs Rt) stops k pc L st sh rf mem nx cu su → ab_Go l G ol d mi bc bs Rt pc L st sh rf mem nx cu su
  | 0, _, _, _, _, _, _, _, _, _, h => h
  | k + 1, pc, L, st, sh, rf, mem, nx, cu, su, h => by
    unfold ab_wp at h
    split at h
    · exact h
    · exact ab_snd hT (fun pc L st sh rf mem nx cu su q => ab_sound hT k pc L st sh rf mem nx cu su q) h
/-- from a place on, the first step whatever the stops are -/
theorem ab_from {l : Launch} {G : ab_G} {ol : ab_Ol} {d mi bc bs : Nat} {T : List ab_E} {Rt : ab_Rt} (hT : ab_ok mi T) (stops : List Nat) (k : Nat) {pc : Nat} {L st : List Value} {sh : ab_S} {rf : ab_R} {mem : ab_N} {nx cu su : Nat}
    (h : ab_step (ab_Cx l G ol d) Rt ol bc bs T (ab_wp (ab_Cx l G ol d) Rt ol bc bs T (ab_Go l G ol d mi bc bs Rt) stops k) pc L st sh rf mem nx cu su) : ab_Go l G ol d mi bc bs Rt pc L st sh rf mem nx cu su :=
  ab_snd hT (fun pc L st sh rf mem nx cu su q => ab_sound hT k pc L st sh rf mem nx cu su q) h
/-! what isn't known may be anything -/
def ab_sub : List Value → List Value → Prop
  | [], [] => True
  | a :: as, b :: bs => (a = .retAddr 0 ∨ a = b) ∧ ab_sub as bs
  | _, _ => False
theorem ab_sub_len : ∀ {L L' : List Value}, ab_sub L L' → L.length = L'.length
  | [], [], _ => rfl
  | _ :: as, _ :: bs, h => by simp [ab_sub_len h.2]
  | [], _ :: _, h => h.elim
  | _ :: _, [], h => h.elim
theorem ab_sub_at : ∀ {L L' : List Value}, ab_sub L L' → ∀ (i : Nat) (v : Value), L[i]? = some v → ab_kn v = true → L'[i]? = some v
  | [], [], _, i, v, hv, _ => by simp at hv
  | a :: as, b :: bs, h, i, v, hv, hk => by
    cases i with
    | zero =>
      simp at hv ⊢
      subst hv
      rcases h.1 with q | q
      · subst q; simp [ab_kn] at hk
      · exact q.symm
    | succ i => exact ab_sub_at h.2 i v (by simpa using hv) hk
  | [], _ :: _, h, _, _, _, _ => h.elim
  | _ :: _, [], h, _, _, _, _ => h.elim
theorem ab_weak {l : Launch} {G : ab_G} {ol : ab_Ol} {d mi bc bs : Nat} {Rt : ab_Rt} {pc : Nat} {L L' st : List Value} {sh : ab_S} {rf : ab_R} {mem : ab_N} {nx cu su : Nat} (hs : ab_sub L L') (h : ab_Go l G ol d mi bc bs Rt pc L st sh rf mem nx cu su) : ab_Go l G ol d mi bc bs Rt pc L' st sh rf mem nx cu su := by
  intro p e R s m args below meth c Q C0 hend H locs ls hR hS hl hcu hsu
  refine h p e R s m args below meth c Q C0 hend H locs ls hR hS ⟨by rw [ab_sub_len hs]; exact hl.1, hl.2.1, hl.2.2.1, fun q hq => ?_⟩ hcu hsu
  obtain ⟨v, h1, h2, h3, h4⟩ := ab_al_mem.mp hq
  exact hl.2.2.2 q (ab_al_mem.mpr ⟨v, h1, ab_sub_at hs q.1 v h2 h3, h3, h4⟩)
