/-! THE REFERENCE: a text is kept -/
section MT
variable {l : Launch} {G : ab_G} {ol : ab_Ol} {d : Nat} {sh : ab_S} {rf : ab_R} {mem : ab_N} {nx : Nat} {K : ab_K}
def txR (f : Row) (T w na n : Nat) (c : List Int32) : Row := fun k => if k = 111 + 2 * T then nI (1000 * w + c.length) else if k = 111 + 2 * T + 1 then nI na else if 139 + 96 * T ≤ k ∧ k < 139 + 96 * T + n then c.getD (k - (139 + 96 * T)) 0 else f k
theorem mt_34 (hS : St sh rf nx) {c : List Int32} {w na T : Nat} {u1 u2 : Value} (hC : Cq mem c) (hc : c.length ≤ 96) (h16 : mem 101 16 = nI w) (hw : w < 3) (h21 : mem 101 21 = nI na) (h6 : mem 102 6 = nI T) (hT : T ≤ 14) (hfu : T = 14 → K (some (.int (-1000000003))) sh rf (ab_w mem 101 10 0) nx) (hok : T < 14 → ∀ mem', (∀ a, a ≠ 101 → a ≠ 102 → mem' a = mem a) → (∀ j, j ≠ 10 → mem' 101 j = mem 101 j) → mem' 101 10 = 0 → mem' 102 = upd (txR (mem 102) T w na c.length c) 6 (nI (T + 1)) → K (some (.int (nI T))) sh rf mem' nx) : ab_Go l G ol d mM_text (ab_mc mM_text) (ab_ms mM_text) (fun r sh rf mem nx _ _ => K r sh rf mem nx) 34 [.ref 101, .int 1, u1, u2] [] sh rf mem nx 0 0 := by
  have i := m9 hS
  have c6 : Int32.toNatClampNeg (6 : Int32) = 6 := by decide
  have v6 : vp_in (6 : Int32) 1483 := vp_in_nI (n := 6) (by decide) (by decide)
  refine g_mM_text_34 ⟨i, fun _ => ?_, fun z => absurd z (by decide)⟩
  generalize hm1 : ab_w mem 101 10 0 = mem1 at hfu ⊢
  have p : ∀ a, a ≠ 101 → mem1 a = mem a := fun a ha => by rw [← hm1, ab_w_ne _ _ _ ha]
  have p1 : ∀ j, j ≠ 10 → mem1 101 j = mem 101 j := fun j hj => by rw [← hm1, w_ne _ _ (Or.inr hj)]
  have e6 : mem1 102 6 = nI T := by rw [p 102 (by decide)]; exact h6
  refine g_mM_text_51 ⟨i, ma hS rfl rfl rfl v6 ?_⟩
  rw [c6, e6]
  refine ⟨fun q => ?_, fun q => ⟨trivial, hfu ((ixe_iff (by omega) (by decide)).mp q)⟩⟩
  have T14 : T < 14 := by
    rcases Nat.lt_or_ge T 14 with z | z
    · exact z
    · exact absurd (by rw [show T = 14 by omega]; rfl) q
  have x1 : (111 : Int32) + (2 : Int32) * nI T = nI (111 + 2 * T) := by rw [show (2 : Int32) = nI 2 from rfl, pk_mul, show (111 : Int32) = nI 111 from rfl, nI_add]
  have x2 : (111 : Int32) + (2 : Int32) * nI T + 1 = nI (111 + 2 * T + 1) := by rw [x1, nI_1]
  have x3 : (1000 : Int32) * mem1 101 16 + mem1 101 20 = nI (1000 * w + c.length) := by rw [p1 16 (by decide), p1 20 (by decide), h16, hC.1, show (1000 : Int32) = nI 1000 from rfl, pk_mul, nI_add]
  have v1 : vp_in (nI (111 + 2 * T)) 1483 := vp_in_nI (by omega) (by decide)
  have v2 : vp_in (nI (111 + 2 * T + 1)) 1483 := vp_in_nI (by omega) (by decide)
  have loop : ∀ n k (mem2 : ab_N), k + n = c.length → (∀ a, a ≠ 102 → mem2 a = mem1 a) → mem2 102 = txR (mem 102) T w na k c → ab_Go l G ol d mM_text (ab_mc mM_text) (ab_ms mM_text) (fun r sh rf mem nx _ _ => K r sh rf mem nx) 117 [.ref 101, .int 1, .int (nI T), .int (nI k)] [] sh rf mem2 nx 0 0 := by
    intro n
    induction n with
    | zero =>
      intro k mem2 hk q2 r2
      have ek : k = c.length := by omega
      refine g_mM_text_117 ⟨i, fun _ => ?_, fun z => absurd (by rw [q2 101 (by decide), p1 20 (by decide), hC.1, ek]; exact Int32.le_refl _) z⟩
      refine g_mM_text_152 ⟨i, ma hS rfl rfl rfl v6 ⟨is_of hS rfl rfl, in_of (n := 1483) hS rfl rfl v6, trivial, ?_⟩⟩
      have f6 : mem2 102 6 = nI T := by
        rw [r2]
        unfold txR
        rw [if_neg (by omega), if_neg (by omega), if_neg (by omega)]
        exact h6
      rw [c6, f6, nI_1]
      refine hok T14 _ (fun a a1 a2 => by rw [ab_w_ne _ _ _ a2, q2 a a2, p a a1]) (fun j hj => by rw [ab_w_ne _ _ _ (by decide), q2 101 (by decide), p1 j hj]) (by rw [ab_w_ne _ _ _ (by decide), q2 101 (by decide), ← hm1, w_eq]) (by rw [ab_w_self, r2, ek])
    | succ n ih =>
      intro k mem2 hk q2 r2
      have x4 : (139 : Int32) + (96 : Int32) * nI T + nI k = nI (139 + 96 * T + k) := by rw [show (96 : Int32) = nI 96 from rfl, pk_mul, show (139 : Int32) = nI 139 from rfl, nI_add, nI_add]
      refine g_mM_text_117 ⟨i, fun z => absurd z (by rw [q2 101 (by decide), p1 20 (by decide), hC.1]; exact nI_ge (by omega) (by omega)), fun _ => ⟨i, rd_of hS rfl rfl ⟨i, ma hS rfl rfl rfl (vp_in_nI (by omega) (by decide)) ⟨is_of hS rfl rfl, ?_⟩⟩⟩⟩
      rw [x4, cl_nI (by omega), cl_nI (by omega), q2 112 (by decide), p 112 (by decide), hC.2 k (by omega), nI_1]
      refine ⟨in_of (n := 1483) hS rfl rfl (vp_in_nI (by omega) (by decide)), ih (k + 1) _ (by omega) (fun a a1 => by rw [ab_w_ne _ _ _ a1, q2 a a1]) ?_⟩
      rw [ab_w_self, r2]
      funext j
      unfold txR upd
      by_cases e : j = 139 + 96 * T + k
      · rw [if_pos e, if_neg (by omega), if_neg (by omega), if_pos (by omega), e, show 139 + 96 * T + k - (139 + 96 * T) = k by omega]
      · rw [if_neg e]
        show (if j = 111 + 2 * T then nI (1000 * w + c.length) else if j = 111 + 2 * T + 1 then nI na else if 139 + 96 * T ≤ j ∧ j < 139 + 96 * T + k then c.getD (j - (139 + 96 * T)) 0 else mem 102 j) = _
        by_cases a1 : j = 111 + 2 * T
        · rw [if_pos a1, if_pos a1]
        · rw [if_neg a1, if_neg a1]
          by_cases a2 : j = 111 + 2 * T + 1
          · rw [if_pos a2, if_pos a2]
          · rw [if_neg a2, if_neg a2]
            by_cases a3 : 139 + 96 * T ≤ j ∧ j < 139 + 96 * T + k
            · rw [if_pos a3, if_pos (by omega)]
            · rw [if_neg a3, if_neg (by omega)]
  refine g_mM_text_66 ⟨i, ma hS rfl rfl rfl v6 ⟨i, rd_of hS rfl rfl ⟨i, i, is_of hS rfl rfl, ?_⟩⟩⟩
  rw [c6, e6, x2, x1, x3, cl_nI (by omega), cl_nI (by omega)]
  refine ⟨in_of (n := 1483) hS rfl rfl v1, i, rd_of hS rfl rfl ⟨i, is_of hS rfl rfl, in_of (n := 1483) hS rfl rfl v2, ?_⟩⟩
  rw [ab_w_ne _ _ _ (by decide), p1 21 (by decide), h21]
  refine loop c.length 0 _ (Nat.zero_add _) (fun a a1 => by rw [ab_w_ne _ _ _ a1, ab_w_ne _ _ _ a1]) ?_
  rw [ab_w_self, ab_w_self, p 102 (by decide)]
  funext j
  unfold txR upd
  by_cases a2 : j = 111 + 2 * T + 1
  · rw [if_pos a2, if_neg (by omega), if_pos a2]
  · rw [if_neg a2]
    by_cases a1 : j = 111 + 2 * T
    · rw [if_pos a1, if_pos a1]
    · rw [if_neg a1, if_neg a1, if_neg a2, if_neg (by omega)]
end MT
