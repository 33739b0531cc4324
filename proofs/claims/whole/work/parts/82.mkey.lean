/-! THE REFERENCE: the key -/
def kof (w : Nat) : Nat := [0, 4, 7].getD w 0
theorem key_n : ∀ w, w < 3 → keyI (w + 1) - keyI w = nI (ab_len.getD w 0) ∧ keyI w = nI (kof w) ∧ kof w + ab_len.getD w 0 ≤ 11 := by decide +kernel
theorem key_c : ∀ w, w < 3 → ∀ k, k < ab_len.getD w 0 → keyC (kof w + k) = chJ w k := by decide +kernel
section MK
variable {l : Launch} {G : ab_G} {ol : ab_Ol} {d : Nat} {sh : ab_S} {rf : ab_R} {mem : ab_N} {nx : Nat} {K : ab_K} {tp : Row} {L : Nat}
theorem m_takesKey (hS : St sh rf nx) (e109 : mem 109 = tp) (h10 : mem 101 10 = nI L) (hL : L ≤ 96) (ht : ∀ j, ∃ q, q < 256 ∧ tp j = nI q) (hc : ∀ k, k < 11 → mem 110 k = keyC k) (hi : ∀ k, k < 4 → mem 111 k = keyI k) (hT : TK mem tp L (skb tp L 0)) (h1 : ∀ w, KyP tp L w → ∀ mem', (∀ a, a ≠ 101 → mem' a = mem a) → (∀ j, ¬ (11 ≤ j ∧ j ≤ 16) → mem' 101 j = mem 101 j) → mem' 101 16 = nI w → TK mem' tp L (nxt tp L (skb tp L 0)) → K (some (.int 1)) sh rf mem' nx) (h0 : (∀ w, ¬ KyP tp L w) → K (some (.int 0)) sh rf mem nx) : ab_Cx l G ol (d + 3) mM_takesKey [.ref 101] sh rf mem nx K := by
  have i := m9 hS
  obtain ⟨s, es⟩ : ∃ s, s = skb tp L 0 := ⟨_, rfl⟩
  have hKy : ∀ w, KyP tp L w ↔ (w < 3 ∧ srt tp L s = 1 ∧ isW tp s (en tp L s) w ∧ ∀ v, v < w → ¬ isW tp s (en tp L s) v) := fun w => by rw [es]; exact Iff.rfl
  rw [← es] at hT h1
  have nb : ¬ nbl tp L s := by rw [es]; exact nbl_0
  have hs : s ≤ L := by rw [es]; exact skb_le (Nat.zero_le _)
  have hb := srt_le (tp := tp) (L := L) s
  have hge := en_ge (tp := tp) (L := L) s
  have hen := en_le (tp := tp) (L := L) hs
  have t4 := tkn_le (tp := tp) (L := L) s
  have k1 : tkn tp L s = 1 ↔ srt tp L s = 1 := by
    unfold tkn
    rw [if_neg nb]
    (repeat' split) <;> omega
  have ed : mem 101 11 - mem 101 12 = nI (en tp L s - s) := by rw [hT.1, hT.2.1]; exact pk_sub hge
  refine f_mM_takesKey ⟨i, fun q => ?_, fun q => ⟨Or.inl rfl, h0 fun w hw => q ?_⟩⟩
  · rw [hT.2.2.1] at q
    have s1 : srt tp L s = 1 := k1.mp ((ixe_iff (by omega) (by decide)).mp q)
    have good : ∀ w, w < 3 → isW tp s (en tp L s) w → (∀ v, v < w → ¬ isW tp s (en tp L s) v) → ab_Cx l G ol (d + 2) mM_go [.ref 101] sh rf (ab_w mem 101 16 (nI w)) nx (fun r2 sh2 rf2 mem2 nx2 => r2 = none ∧ (((1 : Int32) = 0 ∨ (1 : Int32) = 1) ∧ K (some (.int (1 : Int32))) sh2 rf2 mem2 nx2)) := by
      intro w hw hW hf
      refine m_goK (key := w) (s := s) hS ⟨by rw [ab_w_ne _ _ _ (by decide)]; exact e109, by rw [w_ne _ _ (Or.inr (by decide))]; exact h10, by rw [w_eq], hL, hw, ht⟩ (hT.same fun j j1 j2 => by rw [w_ne _ _ (Or.inr (by omega))]) hs (by omega) (fun mem' F T => ⟨rfl, Or.inr rfl, h1 w ((hKy w).mpr ⟨hw, s1, hW, hf⟩) mem' (fun a ha => by rw [F.1 a ha, ab_w_ne _ _ _ ha]) (fun j hj => by rw [F.2 j (by omega), w_ne _ _ (Or.inr (by omega))]) (by rw [F.2 16 (by omega), w_eq]) T⟩)
    have outer : ∀ n w (a b c : Value), w + n = 3 → (∀ v, v < w → ¬ isW tp s (en tp L s) v) → ab_Go l G ol (d + 2) mM_takesKey (ab_mc mM_takesKey) (ab_ms mM_takesKey) (fun r sh rf mem nx _ _ => K r sh rf mem nx) 12 [.ref 101, .int (nI w), a, b, c] [] sh rf mem nx 0 0 := by
      intro n
      induction n with
      | zero =>
        intro w a b c hw hf
        have : w = 3 := by omega
        subst this
        refine g_mM_takesKey_12 ⟨fun _ => ⟨Or.inl rfl, h0 fun v hv => ?_⟩, fun z => absurd (by decide) z⟩
        have := (hKy v).mp hv
        exact hf v this.1 this.2.2.1
      | succ n ih =>
        intro w a b c hw hf
        have w3 : w < 3 := by omega
        obtain ⟨n1, n2, n3⟩ := key_n w w3
        have inner : ∀ m k (fl : Int32), k + m = ab_len.getD w 0 → (fl = 0 ∨ fl = 1) → (fl = 0 → ¬ isW tp s (en tp L s) w) → (fl = 1 → en tp L s - s = ab_len.getD w 0 ∧ ∀ j, j < k → tp (s + j) = chJ w j) → ab_Go l G ol (d + 2) mM_takesKey (ab_mc mM_takesKey) (ab_ms mM_takesKey) (fun r sh rf mem nx _ _ => K r sh rf mem nx) 55 [.ref 101, .int (nI w), .int (nI (ab_len.getD w 0)), .int fl, .int (nI k)] [] sh rf mem nx 0 0 := by
          have hl4 := len_lt w (by omega)
          have next : ∀ (x y z : Value), ¬ isW tp s (en tp L s) w → ab_Go l G ol (d + 2) mM_takesKey (ab_mc mM_takesKey) (ab_ms mM_takesKey) (fun r sh rf mem nx _ _ => K r sh rf mem nx) 12 [.ref 101, .int (nI w + 1), x, y, z] [] sh rf mem nx 0 0 := fun x y z hn => by
            rw [nI_1]
            exact ih (w + 1) x y z (by omega) (fun v hv => by
              by_cases e : v = w
              · subst e; exact hn
              · exact hf v (by omega))
          intro m
          induction m with
          | zero =>
            intro k fl hk hfl f0 f1
            have ek : k = ab_len.getD w 0 := by omega
            refine g_mM_takesKey_55 ⟨fun _ => ⟨fun z => next _ _ _ (f0 z), fun z => ⟨i, i, ?_⟩⟩, fun z => absurd (by rw [ek]; exact Int32.le_refl _) z⟩
            have := f1 (by rcases hfl with e | e; exact absurd e z; exact e)
            exact good w w3 ⟨this.1, by rw [← ek]; exact this.2⟩ hf
          | succ m ihm =>
            intro k fl hk hfl f0 f1
            refine g_mM_takesKey_55 ⟨fun z => absurd z (nI_ge (by omega) (by omega)), fun _ => ⟨fun z => ⟨fun _ => next _ _ _ (f0 z), fun q => absurd z q⟩, fun z => ⟨i, ?_⟩⟩⟩
            have ff := f1 (by rcases hfl with e | e; exact absurd e z; exact e)
            refine rd_of hS rfl rfl ⟨i, is_of hS rfl rfl, ?_⟩
            rw [hT.2.1, nI_add, cl_nI (by omega)]
            refine ⟨in_of (n := 96) hS rfl rfl (vp_in_nI (by omega) (by decide)), i, rd_of hS rfl rfl ⟨i, ma hS rfl rfl rfl (vp_in_nI (by omega) (by decide)) ⟨is_of hS rfl rfl, ?_⟩⟩⟩
            rw [cl_nI (by omega), hi w (by omega), n2, nI_add, cl_nI (by omega), hc _ (by omega), key_c w w3 k (by omega), e109]
            refine ⟨in_of (n := 11) hS rfl rfl (vp_in_nI (by omega) (by decide)), fun q => ?_, fun q => ?_⟩
            · rw [nI_1]
              exact ihm (k + 1) 0 (by omega) (Or.inl rfl) (fun _ hW => q (hW.2 k (by omega))) (fun e => absurd e (by decide))
            · rw [nI_1]
              exact ihm (k + 1) 1 (by omega) (Or.inr rfl) (fun e => absurd e (by decide)) (fun _ => ⟨ff.1, fun j hj => by
                by_cases e : j = k
                · subst e; exact q
                · exact ff.2 j (by omega)⟩)
        refine g_mM_takesKey_12 ⟨fun z => absurd z (nI_ge w3 (by decide)), fun _ => ⟨i, ?_⟩⟩
        rw [nI_1]
        refine ma hS rfl rfl rfl (vp_in_nI (by omega) (by decide)) ⟨i, ma hS rfl rfl rfl (vp_in_nI (by omega) (by decide)) ⟨i, i, ?_⟩⟩
        have hl4 := len_lt w (by omega)
        rw [cl_nI (by omega), cl_nI (by omega), hi _ (by omega), hi _ (by omega), n1, ed]
        refine ⟨fun z => inner (ab_len.getD w 0) 0 0 (Nat.zero_add _) (Or.inl rfl) (fun _ hW => z (by rw [hW.1])) (fun e => absurd e (by decide)), fun z => inner (ab_len.getD w 0) 0 1 (Nat.zero_add _) (Or.inr rfl) (fun e => absurd e (by decide)) (fun _ => ⟨((ixe_iff (by omega) (by omega)).mp z).symm, fun j hj => absurd hj (by omega)⟩)⟩
    exact outer 3 0 _ _ _ rfl (fun v hv => absurd hv (by omega))
  · rw [hT.2.2.1, k1.mpr ((hKy w).mp hw).2.1]; rfl
end MK
