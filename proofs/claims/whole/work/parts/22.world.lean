/-! PURE: a day, on the row that the reference keeps; and what a world of the class has to do with it -/
abbrev Row : Type := Nat → Int32
def tI (i k : Nat) : Nat := 7 + 13 * i + k
abbrev Ct : Type := Int32 → Int32 → Int32 → Int32
def trC (ct : Ct) (i : Nat) (f : Row) : Int32 := ct (f (tI i 1)) (rem (dval (drw (f 0))) 20) (f 2)
def trA (ct : Ct) (i : Nat) (f : Row) : Int32 := ask (f (tI i 0)) (f (tI i 2)) (f (tI i 6)) (f 3) (trC ct i f)
def trF (ct : Ct) (home i : Nat) (f : Row) : Row := fun k => if k = 0 then drw (f 0) else if i = home then f k else if k = tI i 3 then f k + trC ct i f else if k = tI i 4 then f k + trA ct i f else if k = tI i 7 then trA ct i f else if tI i 8 ≤ k ∧ k ≤ tI i 12 then f (k - 1) else f k
def trAll (ct : Ct) (home : Nat) (f : Row) : Nat → Row
  | 0 => f
  | n + 1 => trF ct home n (trAll ct home f n)
def trL (ct : Ct) (home : Nat) (f : Row) (i : Nat) : Int32 := if i = home then 0 else if trC ct i (trAll ct home f i) < trA ct i (trAll ct home f i) then trA ct i (trAll ct home f i) - trC ct i (trAll ct home f i) else 0
/-- a world w of the class, with N travellers, holds the row f -/
def RW (mem : ab_N) (w N : Nat) (f : Row) : Prop := (mem w 7 = f 0 ∧ mem w 2 = nI N ∧ f 1 = nI N ∧ mem w 6 = f 2 ∧ mem w 3 = f 3 ∧ mem w 4 = f 4 ∧ mem w 5 = f 5 ∧ mem w 8 = f 6) ∧ (∀ i k, i < N → k < 7 → mem (w + 3 + 2 * i) k = f (tI i k)) ∧ ∀ i j, i < N → j < 6 → mem (w + 4 + 2 * i) j = f (tI i (7 + j))
/-- nothing but the world's own cells and the laws' stack changes; who is absent and which texts count stay -/
def Fr (w : Nat) (mem mem' : ab_N) : Prop := (∀ a, (a < w ∨ w + 19 ≤ a) → a ≠ 3 → mem' a = mem a) ∧ mem' (w + 2) = mem (w + 2) ∧ mem' w 10 = mem w 10
theorem Fr.rfl {w : Nat} {mem : ab_N} : Fr w mem mem := ⟨fun _ _ _ => Eq.refl _, Eq.refl _, Eq.refl _⟩
theorem Fr.trans {w : Nat} {m1 m2 m3 : ab_N} (h1 : Fr w m1 m2) (h2 : Fr w m2 m3) : Fr w m1 m3 := ⟨fun a ha hb => (h2.1 a ha hb).trans (h1.1 a ha hb), h2.2.1.trans h1.2.1, h2.2.2.trans h1.2.2⟩
/-- absent: -1000000005, or who -/
def absV (home : Nat) : Int32 := if home < 8 then nI home else -1000000005
theorem absV_eq {home i : Nat} (hi : i < 8) : nI i = absV home ↔ i = home := by
  unfold absV
  by_cases h : home < 8
  · rw [if_pos h]
    exact nI_eq (by omega) (by omega)
  · rw [if_neg h]
    have : ∀ i, i < 8 → ¬ nI i = -1000000005 := by decide +kernel
    exact ⟨fun q => absurd q (this i hi), fun q => absurd q (by omega)⟩
theorem RW.draw {mem : ab_N} {w N : Nat} {f : Row} (h : RW mem w N f) (v : Int32) : RW (ab_w mem w 7 v) w N (upd f 0 v) := by
  obtain ⟨⟨h1, h2, h3, h4, h5, h6, h7, h8⟩, h9, h10⟩ := h
  have e : ∀ k, k ≠ 7 → ab_w mem w 7 v w k = mem w k := fun k hk => w_ne _ _ (Or.inr hk)
  have u : ∀ k, k ≠ 0 → upd f 0 v k = f k := fun k hk => by simp [upd, hk]
  refine ⟨⟨by rw [w_eq]; simp [upd], by rw [e 2 (by decide)]; exact h2, by rw [u 1 (by decide)]; exact h3, by rw [e 6 (by decide), u 2 (by decide)]; exact h4, by rw [e 3 (by decide), u 3 (by decide)]; exact h5, by rw [e 4 (by decide), u 4 (by decide)]; exact h6, by rw [e 5 (by decide), u 5 (by decide)]; exact h7, by rw [e 8 (by decide), u 6 (by decide)]; exact h8⟩, fun i k hi hk => ?_, fun i j hi hj => ?_⟩
  · rw [w_ne _ _ (Or.inl (by omega)), u _ (by unfold tI; omega)]; exact h9 i k hi hk
  · rw [w_ne _ _ (Or.inl (by omega)), u _ (by unfold tI; omega)]; exact h10 i j hi hj
/-- a traveller's own numbers of the day don't count -/
theorem RW.own {mem mem' : ab_N} {w N : Nat} {f : Row} (h : RW mem w N f) (hw : ∀ k, mem' w k = mem w k) (h1 : ∀ i k, i < N → k < 7 → mem' (w + 3 + 2 * i) k = mem (w + 3 + 2 * i) k) (h2 : ∀ i j, i < N → j < 6 → mem' (w + 4 + 2 * i) j = mem (w + 4 + 2 * i) j) : RW mem' w N f := by
  obtain ⟨⟨a1, a2, a3, a4, a5, a6, a7, a8⟩, h9, h10⟩ := h
  exact ⟨⟨by rw [hw]; exact a1, by rw [hw]; exact a2, a3, by rw [hw]; exact a4, by rw [hw]; exact a5, by rw [hw]; exact a6, by rw [hw]; exact a7, by rw [hw]; exact a8⟩, fun i k hi hk => (h1 i k hi hk).trans (h9 i k hi hk), fun i j hi hj => (h2 i j hi hj).trans (h10 i j hi hj)⟩
theorem asks_out {mem : ab_N} {t : Nat} {c line : Int32} {b : Nat} (h1 : b ≠ t) (h2 : b ≠ t + 1) : asksMem mem t c line b = mem b := by simp [asksMem, h1, h2]
theorem asks_t {mem : ab_N} {t : Nat} {c line : Int32} (k : Nat) : asksMem mem t c line t k = if k = 8 then ask (mem t 0) (mem t 2) (mem t 6) line c - c else if k = 3 then mem t 3 + c else if k = 4 then mem t 4 + ask (mem t 0) (mem t 2) (mem t 6) line c else mem t k := by simp [asksMem]
theorem asks_c {mem : ab_N} {t : Nat} {c line : Int32} (k : Nat) : asksMem mem t c line (t + 1) k = if k = 0 then ask (mem t 0) (mem t 2) (mem t 6) line c else if k < 6 then mem (t + 1) (k - 1) else mem (t + 1) k := by simp [asksMem]
theorem trF_3 {ct : Ct} {home i : Nat} {f : Row} (hh : i ≠ home) : trF ct home i f (tI i 3) = f (tI i 3) + trC ct i f := by
  unfold trF; rw [if_neg (by unfold tI; omega), if_neg hh, if_pos rfl]
theorem trF_4 {ct : Ct} {home i : Nat} {f : Row} (hh : i ≠ home) : trF ct home i f (tI i 4) = f (tI i 4) + trA ct i f := by
  unfold trF; rw [if_neg (by unfold tI; omega), if_neg hh, if_neg (by unfold tI; omega), if_pos rfl]
theorem trF_7 {ct : Ct} {home i : Nat} {f : Row} (hh : i ≠ home) : trF ct home i f (tI i (7 + 0)) = trA ct i f := by
  unfold trF; rw [if_neg (by unfold tI; omega), if_neg hh, if_neg (by unfold tI; omega), if_neg (by unfold tI; omega), if_pos rfl]
theorem trF_8 {ct : Ct} {home i k : Nat} {f : Row} (hh : i ≠ home) (h0 : k ≠ 0) (h6 : k < 6) : trF ct home i f (tI i (7 + k)) = f (tI i (7 + (k - 1))) := by
  unfold trF; rw [if_neg (by unfold tI; omega), if_neg hh, if_neg (by unfold tI; omega), if_neg (by unfold tI; omega), if_neg (by unfold tI; omega), if_pos (by unfold tI; omega)]
  congr 1; unfold tI; omega
theorem trF_e {ct : Ct} {home i k : Nat} {f : Row} (h0 : k ≠ 0) (h3 : k ≠ tI i 3) (h4 : k ≠ tI i 4) (h7 : k < tI i 7 ∨ tI i 12 < k) : trF ct home i f k = f k := by
  unfold trF; rw [if_neg h0]
  by_cases hh : i = home
  · rw [if_pos hh]
  · rw [if_neg hh, if_neg h3, if_neg h4, if_neg (by unfold tI at *; omega), if_neg (by unfold tI at *; omega)]
theorem trF_0 {ct : Ct} {home i : Nat} {f : Row} : trF ct home i f 0 = drw (f 0) := by unfold trF; rw [if_pos rfl]
/-- one asks: g is the row behind the draw -/
theorem RW.asks {mem : ab_N} {w N i : Nat} {f : Row} {ct : Ct} {home : Nat} (hi : i < N) (hh : i ≠ home) (h : RW mem w N (upd f 0 (drw (f 0)))) : RW (asksMem mem (w + 3 + 2 * i) (trC ct i f) (mem w 3)) w N (trF ct home i f) := by
  obtain ⟨⟨a1, a2, a3, a4, a5, a6, a7, a8⟩, h9, h10⟩ := h
  have u : ∀ k, k ≠ 0 → upd f 0 (drw (f 0)) k = f k := fun k hk => by simp [upd, hk]
  have ea : ask (mem (w + 3 + 2 * i) 0) (mem (w + 3 + 2 * i) 2) (mem (w + 3 + 2 * i) 6) (mem w 3) (trC ct i f) = trA ct i f := by
    rw [h9 i 0 hi (by decide), h9 i 2 hi (by decide), h9 i 6 hi (by decide), a5, u _ (by unfold tI; omega), u _ (by unfold tI; omega), u _ (by unfold tI; omega), u 3 (by decide)]
    rfl
  have ew : asksMem mem (w + 3 + 2 * i) (trC ct i f) (mem w 3) w = mem w := asks_out (by omega) (by omega)
  have t0 : ∀ k, k ≠ 0 → k < 7 → trF ct home i f k = f k := fun k hk hk7 => trF_e hk (by unfold tI; omega) (by unfold tI; omega) (by unfold tI; omega)
  refine ⟨⟨by rw [ew, a1, trF_0]; simp [upd], by rw [ew]; exact a2, by rw [t0 1 (by decide) (by decide)]; rw [u 1 (by decide)] at a3; exact a3, by rw [ew, t0 2 (by decide) (by decide), a4]; exact u 2 (by decide), by rw [ew, t0 3 (by decide) (by decide), a5]; exact u 3 (by decide), by rw [ew, t0 4 (by decide) (by decide), a6]; exact u 4 (by decide), by rw [ew, t0 5 (by decide) (by decide), a7]; exact u 5 (by decide), by rw [ew, t0 6 (by decide) (by decide), a8]; exact u 6 (by decide)⟩, fun j k hj hk => ?_, fun j k hj hk => ?_⟩
  · by_cases hji : j = i
    · subst hji
      rw [asks_t, ea]
      have hm := h9 j k hj hk
      rw [u _ (by unfold tI; omega)] at hm
      rw [if_neg (by omega : ¬ k = 8)]
      by_cases k3 : k = 3
      · subst k3; rw [if_pos rfl, trF_3 hh, hm]
      · rw [if_neg k3]
        by_cases k4 : k = 4
        · subst k4; rw [if_pos rfl, trF_4 hh, hm]
        · rw [if_neg k4, trF_e (by unfold tI; omega) (by unfold tI; omega) (by unfold tI; omega) (by unfold tI; omega), hm]
    · rw [asks_out (by omega) (by omega), h9 j k hj hk, u _ (by unfold tI; omega), trF_e (by unfold tI; omega) (by unfold tI; omega) (by unfold tI; omega) (by unfold tI; omega)]
  · by_cases hji : j = i
    · subst hji
      rw [show w + 4 + 2 * j = (w + 3 + 2 * j) + 1 by omega, asks_c, ea]
      by_cases k0 : k = 0
      · subst k0; rw [if_pos rfl, trF_7 hh]
      · have hm := h10 j (k - 1) hj (by omega)
        rw [u _ (by unfold tI; omega)] at hm
        rw [if_neg k0, if_pos hk, trF_8 hh k0 hk, show (w + 3 + 2 * j) + 1 = w + 4 + 2 * j by omega, hm]
    · rw [asks_out (by omega) (by omega), h10 j k hj hk, u _ (by unfold tI; omega), trF_e (by unfold tI; omega) (by unfold tI; omega) (by unfold tI; omega) (by unfold tI; omega)]
theorem trF_home {ct : Ct} {home : Nat} {f : Row} : trF ct home home f = upd f 0 (drw (f 0)) := by
  funext k
  unfold trF upd
  by_cases hk : k = 0
  · rw [if_pos hk, if_pos hk]
  · rw [if_neg hk, if_pos rfl, if_neg hk]
section XW
variable {l : Launch} {G : ab_G} {ol : ab_Ol} {d : Nat} {sh : ab_S} {rf : ab_R} {mem : ab_N} {nx : Nat} {K : ab_K}
theorem s_draw (hS : St sh rf nx) {w : Nat} (hw : Wd w) (h : K (some (.int (dval (drw (mem w 7))))) sh rf (ab_w mem w 7 (drw (mem w 7))) nx) : ab_Cx l G ol (d + 1) mWo_draw [.ref w] sh rf mem nx K := by
  have i := wd_is hS hw
  refine e_mWo_draw ⟨i, i, i, trivial, ?_⟩
  show K (some (.int (dval (ab_w mem w 7 (drw (mem w 7)) w 7)))) sh rf (ab_w mem w 7 (drw (mem w 7))) nx
  rw [w_eq]
  exact h
end XW
