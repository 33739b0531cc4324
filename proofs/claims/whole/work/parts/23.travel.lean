/-! THE CLASS: World.travel -/
def CostOK (l : Launch) (G : ab_G) (ol : ab_Ol) (sh : ab_S) (rf : ab_R) (nx w : Nat) (TI : ab_N → Prop) (ct : Ct) : Prop := (∀ (d : Nat) (mem : ab_N) (t : Nat) (x : Int32) (K : ab_K), TI mem → Td t → (∀ mem' : ab_N, (∀ a, a ≠ 3 → mem' a = mem a) → K (some (.int (ct (mem t 1) x (mem w 6)))) sh rf mem' nx) → ab_Cx l G ol (d + 3) mWo_costOf [.ref w, .ref t, .int x] sh rf mem nx K) ∧ ∀ mem mem', Fr w mem mem' → TI mem → TI mem'
/-- what the travellers' own numbers of the day are, behind the travelling of the first n -/
def Own (ct : Ct) (home : Nat) (f : Row) (mem : ab_N) (w n : Nat) : Prop := (∀ j, j < n → mem (w + 3 + 2 * j) 10 = if j = home then 1 else 0) ∧ ∀ j, j < n → j ≠ home → mem (w + 3 + 2 * j) 8 = trA ct j (trAll ct home f j) - trC ct j (trAll ct home f j)
section XV
variable {l : Launch} {G : ab_G} {ol : ab_Ol} {d : Nat} {sh : ab_S} {rf : ab_R} {nx : Nat} {K : ab_K}
theorem Fr.w10 {w : Nat} {mem : ab_N} {i k : Nat} {v : Int32} (hi : i < 8) : Fr w mem (ab_w mem (w + 3 + 2 * i) k v) := ⟨fun a ha _ => by funext j; exact w_ne _ _ (Or.inl (by omega)), by funext j; exact w_ne _ _ (Or.inl (by omega)), w_ne _ _ (Or.inl (by omega))⟩
theorem Fr.z7 {w : Nat} {mem : ab_N} {k : Nat} {v : Int32} (hk : k ≠ 10) : Fr w mem (ab_w mem w k v) := ⟨fun a ha _ => by funext j; exact w_ne _ _ (Or.inl (by omega)), by funext j; exact w_ne _ _ (Or.inl (by omega)), w_ne _ _ (Or.inr (Ne.symm hk))⟩
theorem Fr.r3 {w : Nat} {mem mem' : ab_N} (hw : Wd w) (h : ∀ a, a ≠ 3 → mem' a = mem a) : Fr w mem mem' := by
  have h2 : w + 2 ≠ 3 := by rcases hw with rfl | rfl | rfl <;> decide
  have h0 : w ≠ 3 := by rcases hw with rfl | rfl | rfl <;> decide
  exact ⟨fun a _ h3 => h a h3, h _ h2, by rw [h _ h0]⟩
theorem Fr.asks {w : Nat} {mem : ab_N} {i : Nat} {c line : Int32} (hi : i < 8) : Fr w mem (asksMem mem (w + 3 + 2 * i) c line) := ⟨fun a ha _ => asks_out (by omega) (by omega), asks_out (by omega) (by omega), by rw [asks_out (by omega) (by omega)]⟩
theorem wd_ge {w : Nat} (hw : Wd w) : 4 ≤ w := by rcases hw with rfl | rfl | rfl <;> decide
set_option maxHeartbeats 4000000 in
theorem s_travel (hS : St sh rf nx) {w N home : Nat} {f : Row} {ct : Ct} {TI : ab_N → Prop} {mem : ab_N} (hw : Wd w) (hN : N ≤ 8) (hC : CostOK l G ol sh rf nx w TI ct) (hT : TI mem) (hR : RW mem w N f) (hA : mem w 10 = absV home)
    (h : ∀ mem', Fr w mem mem' → RW mem' w N (trAll ct home f N) → Own ct home f mem' w N → K none sh rf mem' nx) : ab_Cx l G ol (d + 4) mWo_travel [.ref w] sh rf mem nx K := by
  have hw4 := wd_ge hw
  suffices loop : ∀ n i, i + n = N → ∀ mem', Fr w mem mem' → RW mem' w N (trAll ct home f i) → Own ct home f mem' w i → ∀ u2 u3, ab_Go l G ol (d + 3) mWo_travel (ab_mc mWo_travel) (ab_ms mWo_travel) (fun r sh rf mem nx _ _ => K r sh rf mem nx) 2 [.ref w, .int (nI i), u2, u3] [] sh rf mem' nx 0 0 from
    e_mWo_travel (loop N 0 (by omega) mem Fr.rfl hR ⟨fun j q => by omega, fun j q => by omega⟩ _ _)
  intro n
  induction n with
  | zero =>
    intro i hi mem' hF hR' hO u2 u3
    have : i = N := by omega
    subst this
    exact h_mWo_travel_2 ⟨wd_is hS hw, fun _ => h mem' hF hR' hO, fun q => absurd (by rw [hR'.1.2.1]; exact Int32.le_refl _) q⟩
  | succ n ih =>
    intro i hi mem1 hF hR1 hO u2 u3
    have hiN : i < N := by omega
    have hi8 : i < 8 := by omega
    have cl : Int32.toNatClampNeg (nI i) = i := nI_clamp (by omega)
    generalize hg : trAll ct home f i = g at *
    have hz : mem1 w 7 = g 0 := hR1.1.1
    -- behind the draw
    have hR2 : RW (ab_w mem1 w 7 (drw (mem1 w 7))) w N (upd g 0 (drw (g 0))) := by rw [hz]; exact hR1.draw _
    have hF2 : Fr w mem (ab_w mem1 w 7 (drw (mem1 w 7))) := hF.trans (Fr.z7 (by decide))
    have hd2 : ∀ a, a ≠ w → ab_w mem1 w 7 (drw (mem1 w 7)) a = mem1 a := fun a ha => ab_w_ne _ _ _ ha
    generalize hm2 : ab_w mem1 w 7 (drw (mem1 w 7)) = mem2 at *
    have hA2 : mem2 w 10 = absV home := by rw [hF2.2.2]; exact hA
    have next : ∀ mem', Fr w mem mem' → RW mem' w N (trF ct home i g) → Own ct home f mem' w (i + 1) → ∀ u2 u3, ab_Go l G ol (d + 3) mWo_travel (ab_mc mWo_travel) (ab_ms mWo_travel) (fun r sh rf mem nx _ _ => K r sh rf mem nx) 2 [.ref w, .int (nI i + 1), u2, u3] [] sh rf mem' nx 0 0 := by
      intro mem' q1 q2 q3 u2 u3
      rw [nI_1]
      exact ih (i + 1) (by omega) mem' q1 (by rw [show trAll ct home f (i + 1) = trF ct home i g from by rw [← hg]; rfl]; exact q2) q3 u2 u3
    refine h_mWo_travel_2 ⟨wd_is hS hw, fun q => absurd q (by rw [hR1.1.2.1]; exact nI_ge hiN (by omega)), fun _ => ⟨wd_is hS hw, s_draw hS hw ?_⟩⟩
    rw [hm2]
    refine ⟨_, rfl, by decide, wd_is hS hw, wd_rd1 hS hw ⟨wd_is1 hS hw, wd_in1 hS hw (vp_in_nI hi8 (by decide)), ?_⟩⟩
    rw [cl]
    refine wd_rdt hS hw hi8 ⟨wd_is hS hw, fun q1 => ?_, fun q1 => ?_⟩
    · have hh : i ≠ home := fun q => q1 (by rw [hA2]; exact (absV_eq hi8).mpr q)
      have e3 : ab_w mem2 (w + 3 + 2 * i) 10 0 w 10 = mem2 w 10 := w_ne _ _ (Or.inl (by omega))
      have hF3 : Fr w mem (ab_w mem2 (w + 3 + 2 * i) 10 0) := hF2.trans (Fr.w10 hi8)
      have hR3 : RW (ab_w mem2 (w + 3 + 2 * i) 10 0) w N (upd g 0 (drw (g 0))) := hR2.own (fun k => w_ne _ _ (Or.inl (by omega))) (fun j k _ hk => w_ne _ _ (Or.inr (by omega))) (fun j k _ hk => w_ne _ _ (Or.inl (by omega)))
      refine ⟨td_is hS (wd_td hw hi8), Or.inl rfl, wd_is hS hw, fun q => absurd (by rw [e3] at q; exact q) q1, fun _ => ⟨wd_is hS hw, ?_⟩⟩
      have hO3 : ∀ j, j < i → ∀ k, ab_w mem2 (w + 3 + 2 * i) 10 0 (w + 3 + 2 * j) k = mem1 (w + 3 + 2 * j) k := fun j hj k => by rw [w_ne _ _ (Or.inl (by omega)), hd2 _ (by omega)]
      have hO3i : ab_w mem2 (w + 3 + 2 * i) 10 0 (w + 3 + 2 * i) 10 = 0 := w_eq _ _ _ _
      generalize hm3 : ab_w mem2 (w + 3 + 2 * i) 10 0 = mem3 at *
      refine hC.1 d mem3 (w + 3 + 2 * i) _ _ (hC.2 _ _ hF3 hT) (wd_td hw hi8) ?_
      intro mem4 h4
      have hF4 : Fr w mem mem4 := hF3.trans (Fr.r3 hw h4)
      have hR4 : RW mem4 w N (upd g 0 (drw (g 0))) := hR3.own (fun k => by rw [h4 w (by omega)]) (fun j k _ _ => by rw [h4 _ (by omega)]) (fun j k _ _ => by rw [h4 _ (by omega)])
      have ec : ct (mem3 (w + 3 + 2 * i) 1) (dval (drw (mem1 w 7)) - dval (drw (mem1 w 7)) / 20 * 20) (mem3 w 6) = trC ct i g := by
        rw [hR3.2.1 i 1 hiN (by decide), hR3.1.2.2.2.1, hz]
        unfold trC rem
        rw [pk_un (by unfold tI; omega), pk_un (by decide)]
      rw [ec]
      refine ⟨_, rfl, wd_is hS hw, td_is hS (wd_td hw hi8), s_asksOn hS (wd_td hw hi8) ⟨rfl, next _ (hF4.trans (Fr.asks hi8)) (hR4.asks hiN hh) ⟨fun j hj => ?_, fun j hj hjh => ?_⟩ _ _⟩⟩
      · by_cases hji : j = i
        · subst hji
          rw [asks_t, if_neg (by decide), if_neg (by decide), if_neg (by decide), h4 _ (by omega), hO3i, if_neg hh]
        · rw [asks_out (by omega) (by omega), h4 _ (by omega), hO3 j (by omega)]
          exact hO.1 j (by omega)
      · by_cases hji : j = i
        · subst hji
          rw [asks_t, if_pos rfl, hg]
          congr 1
          rw [hR4.2.1 j 0 hiN (by decide), hR4.2.1 j 2 hiN (by decide), hR4.2.1 j 6 hiN (by decide), hR4.1.2.2.2.2.1]
          unfold trA
          rw [pk_un (by unfold tI; omega), pk_un (by unfold tI; omega), pk_un (by unfold tI; omega), pk_un (by decide)]
        · rw [asks_out (by omega) (by omega), h4 _ (by omega), hO3 j (by omega)]
          exact hO.2 j (by omega) hjh
    · have hh : i = home := (absV_eq hi8).mp (by rw [← hA2]; exact q1)
      have e3 : ab_w mem2 (w + 3 + 2 * i) 10 1 w 10 = mem2 w 10 := w_ne _ _ (Or.inl (by omega))
      refine ⟨td_is hS (wd_td hw hi8), Or.inr rfl, wd_is hS hw, fun _ => ?_, fun q => absurd (by rw [e3]; exact q1) q⟩
      refine next _ (hF2.trans (Fr.w10 hi8)) ?_ ⟨fun j hj => ?_, fun j hj hjh => ?_⟩ _ _
      · subst hh
        rw [trF_home]
        exact hR2.own (fun k => w_ne _ _ (Or.inl (by omega))) (fun j k _ hk => w_ne _ _ (Or.inr (by omega))) (fun j k _ hk => w_ne _ _ (Or.inl (by omega)))
      · by_cases hji : j = i
        · subst hji
          rw [w_eq, if_pos hh]
        · rw [w_ne _ _ (Or.inl (by omega)), hd2 _ (by omega)]
          exact hO.1 j (by omega)
      · have hji : j ≠ i := fun q => hjh (q.trans hh)
        rw [w_ne _ _ (Or.inl (by omega)), hd2 _ (by omega)]
        exact hO.2 j (by omega) hjh
end XV
