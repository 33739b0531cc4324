/-! THE REFERENCE: a text is read -/
section MU
variable {l : Launch} {G : ab_G} {ol : ab_Ol} {sh : ab_S} {rf : ab_R} {mem : ab_N} {nx : Nat} {K : ab_K}
/-- what reading may change beside what is told -/
def FU (mem mem' : ab_N) : Prop := (∀ a, a ≠ 101 → a ≠ 112 → a ≠ 113 → a ≠ 114 → mem' a = mem a) ∧ (∀ j, ¬ (10 ≤ j ∧ j ≤ 16) → j ≠ 20 → j ≠ 21 → j ≠ 23 → mem' 101 j = mem 101 j) ∧ mem' 101 10 = 0
theorem m_text (hS : St sh rf nx) {L T : Nat} (hL : L ≤ 96) (h10 : mem 101 10 = nI L) (ht : ∀ j, ∃ q, q < 256 ∧ mem 109 j = nI q) (hc : ∀ k, k < 11 → mem 110 k = keyC k) (hi : ∀ k, k < 4 → mem 111 k = keyI k) (h6 : mem 102 6 = nI T) (hT : T ≤ 14)
    (hend : ((∀ w, ¬ KyP (mem 109) L w) ∧ ∀ mem', FU mem mem' → K (some (.int (-100 - nI (skb (mem 109) L 0)))) sh rf mem' nx) ∨ (∃ w, KyP (mem 109) L w ∧ (∀ v, KyP (mem 109) L v → v = w) ∧ ∃ M, Rch (mem 109) L w (M0 (mem 109) L) M ∧ ((Fl (mem 109) L w M ∧ ∀ mem', FU mem mem' → K (some (.int (-100 - nI M.s))) sh rf mem' nx) ∨ (DoneP (mem 109) L w M ∧ (M.cd ++ M.st).length ≤ 96 ∧ (T = 14 → ∀ mem', FU mem mem' → K (some (.int (-1000000003))) sh rf mem' nx) ∧ (T < 14 → ∀ mem1 mem', FU mem mem1 → (∀ a, a ≠ 102 → mem' a = mem1 a) → mem' 102 = upd (txR (mem 102) T w M.na (M.cd ++ M.st).length (M.cd ++ M.st)) 6 (nI (T + 1)) → K (some (.int (nI T))) sh rf mem' nx))))) : ab_Cx l G ol 700 mM_text [.ref 101] sh rf mem nx K := by
  have i := m9 hS
  refine f_mM_text ⟨i, i, i, ?_⟩
  generalize hm : ab_w (ab_w mem 101 11 0) 101 15 (-1) = mem1
  have o : ∀ a, a ≠ 101 → mem1 a = mem a := fun a ha => by rw [← hm, ab_w_ne _ _ _ ha, ab_w_ne _ _ _ ha]
  have o1 : ∀ j, j ≠ 11 → j ≠ 15 → mem1 101 j = mem 101 j := fun j a b => by rw [← hm, w_ne _ _ (Or.inr b), w_ne _ _ (Or.inr a)]
  have e15 : mem1 101 15 = -1 := by rw [← hm, w_eq]
  have e109 := o 109 (by decide)
  have hs0 : skb (mem 109) L 0 ≤ L := skb_le (Nat.zero_le _)
  have bad : ∀ mem2 s, (∀ a, a ≠ 101 → a ≠ 112 → a ≠ 113 → a ≠ 114 → mem2 a = mem a) → (∀ j, ¬ (10 ≤ j ∧ j ≤ 16) → j ≠ 20 → j ≠ 21 → j ≠ 23 → mem2 101 j = mem 101 j) → mem2 101 12 = nI s → (∀ mem', FU mem mem' → K (some (.int (-100 - nI s))) sh rf mem' nx) → ab_Go l G ol 699 mM_text (ab_mc mM_text) (ab_ms mM_text) (fun r sh rf mem nx _ _ => K r sh rf mem nx) 34 [.ref 101, .int 0, .retAddr 0, .retAddr 0] [] sh rf mem2 nx 0 0 := by
    intro mem2 s F1 F2 m12 hk
    refine g_mM_text_34 ⟨i, fun z => absurd rfl z, fun _ => ⟨i, trivial, ?_⟩⟩
    rw [w_ne _ _ (Or.inr (by decide)), m12]
    exact hk _ ⟨fun a a1 a2 a3 a4 => by rw [ab_w_ne _ _ _ a1]; exact F1 a a1 a2 a3 a4, fun j a b c e => by rw [w_ne _ _ (Or.inr (by omega))]; exact F2 j a b c e, by rw [w_eq]⟩
  refine m_go (d := 697) (k := 0) hS hL (Nat.zero_le _) (by rw [o1 10 (by decide) (by decide)]; exact h10) (by rw [← hm, w_ne _ _ (Or.inr (by decide)), w_eq]; rfl) ?_ (Or.inl e15) (fun mem2 F T2 => ⟨rfl, i, ?_⟩)
  · rw [e109, e15]
    exact ⟨fun q => by have := nI_pos' (n := skb (mem 109) L 0) (by omega); rw [← q] at this; exact absurd this (by decide), fun q => absurd q nbl_0⟩
  rw [e109] at T2
  have q1 : ∀ a, a ≠ 101 → mem2 a = mem a := fun a ha => (F.1 a ha).trans (o a ha)
  have q2 : ∀ j, ¬ (11 ≤ j ∧ j ≤ 15) → mem2 101 j = mem 101 j := fun j hj => (F.2 j hj).trans (o1 j (by omega) (by omega))
  refine m_takesKey (d := 696) (tp := mem 109) (L := L) hS (q1 109 (by decide)) (by rw [q2 10 (by omega)]; exact h10) hL ht (by rw [q1 110 (by decide)]; exact hc) (by rw [q1 111 (by decide)]; exact hi) T2 (fun w hw mem3 G1 G2 e16 T3 => ⟨_, rfl, fun z => absurd z (by decide), fun _ => ⟨i, ?_⟩⟩) (fun hn => ⟨_, rfl, fun _ => ?_, fun z => absurd rfl z⟩)
  · have r1 : ∀ a, a ≠ 101 → mem3 a = mem a := fun a ha => (G1 a ha).trans (q1 a ha)
    have r2 : ∀ j, ¬ (11 ≤ j ∧ j ≤ 16) → mem3 101 j = mem 101 j := fun j hj => (G2 j hj).trans (q2 j (by omega))
    have E3 : EQ (mem 109) L w mem3 := ⟨r1 109 (by decide), by rw [r2 10 (by omega)]; exact h10, e16, hL, hw.1, ht⟩
    rcases hend with ⟨hno, _⟩ | ⟨w', hw', hu, M, hr, hM⟩
    · exact absurd hw (hno w)
    · have := hu w hw
      subst this
      have gt := nxt_gt (tp := mem 109) (L := L) (s := skb (mem 109) L 0) (by rw [hw.2.1]; decide)
      have fr : ∀ mem4, FQ mem3 mem4 → (∀ a, a ≠ 101 → a ≠ 112 → a ≠ 113 → a ≠ 114 → mem4 a = mem a) ∧ (∀ j, ¬ (10 ≤ j ∧ j ≤ 16) → j ≠ 20 → j ≠ 21 → j ≠ 23 → mem4 101 j = mem 101 j) := fun mem4 F4 => ⟨fun a a1 a2 a3 a4 => (F4.1 a a1 a2 a3 a4).trans (r1 a a1), fun j a b c e => (F4.2 j (by omega) b c e).trans (r2 j (by omega))⟩
      refine m_takesE (d := 694) (M := M0 (mem 109) L) hS E3 rfl T3 (nxt_le hs0) (by show 0 < nxt _ _ _; omega) hr ?_
      rcases hM with ⟨hf, hk⟩ | ⟨hd, hlen, hfu, hok⟩
      · exact Or.inl ⟨hf, fun mem4 F4 m12 => ⟨_, rfl, fun _ => bad mem4 M.s (fr mem4 F4).1 (fr mem4 F4).2 m12 hk, fun z => absurd rfl z⟩⟩
      · refine Or.inr ⟨hd.2.1, hd.2.2.1, hd.2.2.2, fun mem4 F4 C4 a4 => ⟨_, rfl, fun z => absurd z (by decide), fun _ => ?_⟩⟩
        obtain ⟨f1, f2⟩ := fr mem4 F4
        have e102 : mem4 102 = mem 102 := f1 102 (by decide) (by decide) (by decide) (by decide)
        refine mt_34 hS C4 hlen (by rw [F4.2 16 (by omega) (by decide) (by decide) (by decide)]; exact e16) hw.1 a4 (by rw [e102]; exact h6) hT (fun z => hfu z _ ⟨fun a a1 a2 a3 a4 => by rw [ab_w_ne _ _ _ a1]; exact f1 a a1 a2 a3 a4, fun j a b c e => by rw [w_ne _ _ (Or.inr (by omega))]; exact f2 j a b c e, by rw [w_eq]⟩) (fun z mem5 g1 g2 g3 g4 => hok z (ab_w mem4 101 10 0) mem5 ⟨fun a a1 a2 a3 a4 => by rw [ab_w_ne _ _ _ a1]; exact f1 a a1 a2 a3 a4, fun j a b c e => by rw [w_ne _ _ (Or.inr (by omega))]; exact f2 j a b c e, by rw [w_eq]⟩ (fun a a2 => ?_) (by rw [g4, e102]))
        by_cases e : a = 101
        · subst e
          funext j
          by_cases ej : j = 10
          · subst ej; rw [g3, w_eq]
          · rw [g2 j ej, w_ne _ _ (Or.inr ej)]
        · rw [g1 a e a2, ab_w_ne _ _ _ e]
  · rcases hend with ⟨_, hk⟩ | ⟨w', hw', _⟩
    · exact bad mem2 _ (fun a a1 _ _ _ => q1 a a1) (fun j a _ _ _ => q2 j (by omega)) T2.2.1 hk
    · exact absurd hw' (hn w')
end MU
