/-! THE SMALL MACHINE, part 8: many steps -/
theorem ab_sound {l : Launch} {G : ab_G} {ol : ab_Ol} {d mi bc bs : Nat} {T : List ab_E} {Rt : ab_Rt} {stops : List Nat} (hT : ab_ok mi T) : ∀ (k pc : Nat) (L st : List Value) (sh : ab_S) (rf : ab_R) (mem : ab_N) (nx cu su : Nat),
    ab_wp (ab_Cx l G ol d) Rt ol bc bs T (ab_Go l G ol d mi bc bs Rt) stops k pc L st sh rf mem nx cu su → ab_Go l G ol d mi bc bs Rt pc L st sh rf mem nx cu su
  | 0, _, _, _, _, _, _, _, _, _, h => h
  | k + 1, pc, L, st, sh, rf, mem, nx, cu, su, h => by
    unfold ab_wp at h
    split at h
    · exact h
    · exact ab_snd hT (fun pc L st sh rf mem nx cu su q => ab_sound hT k pc L st sh rf mem nx cu su q) h
/-- from a place on, the first step whatever the stops are -/
theorem ab_from {l : Launch} {G : ab_G} {ol : ab_Ol} {d mi bc bs : Nat} {T : List ab_E} {Rt : ab_Rt} (hT : ab_ok mi T) (stops : List Nat) (k : Nat) {pc : Nat} {L st : List Value} {sh : ab_S} {rf : ab_R} {mem : ab_N} {nx cu su : Nat}
    (h : ab_step (ab_Cx l G ol d) Rt ol bc bs T (ab_wp (ab_Cx l G ol d) Rt ol bc bs T (ab_Go l G ol d mi bc bs Rt) stops k) pc L st sh rf mem nx cu su) : ab_Go l G ol d mi bc bs Rt pc L st sh rf mem nx cu su :=
  ab_snd hT (fun pc L st sh rf mem nx cu su q => ab_sound hT k pc L st sh rf mem nx cu su q) h
