/-! PURE: the words and signs of a tape -/
def srt (tp : Row) (L k : Nat) : Nat := if L ≤ k then 0 else if 97 ≤ tp k ∧ tp k ≤ 122 then 1 else if 48 ≤ tp k ∧ tp k ≤ 57 then 2 else 3
def skp (tp : Row) (L : Nat) : Nat → Nat → Nat
  | 0, k => k
  | n + 1, k => if tp k = 32 then skp tp L n (k + 1) else k
def skb (tp : Row) (L k : Nat) : Nat := skp tp L (L - k) k
def wnd (tp : Row) (L r : Nat) : Nat → Nat → Nat
  | 0, k => k
  | n + 1, k => if srt tp L k = r then wnd tp L r n (k + 1) else k
def wen (tp : Row) (L r k : Nat) : Nat := wnd tp L r (L - k) k
def en (tp : Row) (L s : Nat) : Nat := if srt tp L s = 3 then s + 1 else if srt tp L s = 0 then s else wen tp L (srt tp L s) s
def nxt (tp : Row) (L s : Nat) : Nat := skb tp L (en tp L s)
section TOK
variable {tp : Row} {L : Nat}
theorem srt_le (k : Nat) : srt tp L k ≤ 3 := by unfold srt; split <;> (try split) <;> (try split) <;> omega
theorem srt_0 {k : Nat} (h : srt tp L k = 0) : L ≤ k := by
  unfold srt at h
  by_cases g : L ≤ k
  · exact g
  · rw [if_neg g] at h
    split at h <;> (try split at h) <;> omega
theorem srt_ge {k : Nat} (h : L ≤ k) : srt tp L k = 0 := by unfold srt; rw [if_pos h]
theorem srt_lt {k : Nat} (h : srt tp L k ≠ 0) : k < L := by
  rcases Nat.lt_or_ge k L with g | g
  · exact g
  · exact absurd (srt_ge g) h
theorem srt_32 {k : Nat} (h : k < L) (e : tp k = 32) : srt tp L k = 3 := by
  unfold srt
  rw [if_neg (by omega), e]
  decide
theorem skb_s {k : Nat} (h : k < L) (e : tp k = 32) : skb tp L k = skb tp L (k + 1) := by
  unfold skb
  rw [show L - k = (L - (k + 1)) + 1 by omega, skp, if_pos e]
theorem skb_e {k : Nat} (e : ¬ tp k = 32) : skb tp L k = k := by
  unfold skb
  cases L - k with
  | zero => rfl
  | succ n => rw [skp, if_neg e]
theorem skb_L {k : Nat} (h : L ≤ k) : skb tp L k = k := by
  unfold skb
  rw [show L - k = 0 by omega]; rfl
theorem skb_ind (P : Nat → Nat → Prop) (h1 : ∀ k, P k k) (h2 : ∀ k s, k < L → tp k = 32 → P (k + 1) s → P k s) : ∀ n k, L - k = n → P k (skb tp L k) := by
  intro n
  induction n with
  | zero => intro k h; rw [skb_L (by omega)]; exact h1 k
  | succ n ih =>
    intro k h
    by_cases e : tp k = 32
    · rw [skb_s (by omega) e]; exact h2 k _ (by omega) e (ih (k + 1) (by omega))
    · rw [skb_e e]; exact h1 k
theorem skb_ge (k : Nat) : k ≤ skb tp L k := skb_ind (fun k s => k ≤ s) (fun k => Nat.le_refl k) (fun k s _ _ h => by omega) _ k rfl
theorem skb_le {k : Nat} (h : k ≤ L) : skb tp L k ≤ L := skb_ind (fun k s => k ≤ L → s ≤ L) (fun k h => h) (fun k s g _ ih _ => ih (by omega)) _ k rfl h
theorem skb_bl {k : Nat} : ∀ j, k ≤ j → j < skb tp L k → j < L ∧ tp j = 32 := skb_ind (fun k s => ∀ j, k ≤ j → j < s → j < L ∧ tp j = 32) (fun k j h1 h2 => by omega) (fun k s g e ih j h1 h2 => by
  by_cases q : j = k
  · subst q; exact ⟨g, e⟩
  · exact ih j (by omega) h2) _ k rfl
theorem wen_s {r k : Nat} (h : k < L) (e : srt tp L k = r) : wen tp L r k = wen tp L r (k + 1) := by
  unfold wen
  rw [show L - k = (L - (k + 1)) + 1 by omega, wnd, if_pos e]
theorem wen_e {r k : Nat} (e : ¬ srt tp L k = r) : wen tp L r k = k := by
  unfold wen
  cases L - k with
  | zero => rfl
  | succ n => rw [wnd, if_neg e]
theorem wen_L {r k : Nat} (h : L ≤ k) : wen tp L r k = k := by
  unfold wen
  rw [show L - k = 0 by omega]; rfl
theorem wen_ind {r : Nat} (P : Nat → Nat → Prop) (h1 : ∀ k, (L ≤ k ∨ srt tp L k ≠ r) → P k k) (h2 : ∀ k s, k < L → srt tp L k = r → P (k + 1) s → P k s) : ∀ n k, L - k = n → P k (wen tp L r k) := by
  intro n
  induction n with
  | zero => intro k h; rw [wen_L (by omega)]; exact h1 k (Or.inl (by omega))
  | succ n ih =>
    intro k h
    by_cases e : srt tp L k = r
    · rw [wen_s (by omega) e]; exact h2 k _ (by omega) e (ih (k + 1) (by omega))
    · rw [wen_e e]; exact h1 k (Or.inr e)
theorem wen_ge {r : Nat} (k : Nat) : k ≤ wen tp L r k := wen_ind (fun k s => k ≤ s) (fun k _ => Nat.le_refl k) (fun k s _ _ h => by omega) _ k rfl
theorem wen_le {r k : Nat} (h : k ≤ L) : wen tp L r k ≤ L := wen_ind (fun k s => k ≤ L → s ≤ L) (fun k _ h => h) (fun k s g _ ih _ => ih (by omega)) _ k rfl h
theorem wen_in {r k : Nat} : ∀ j, k ≤ j → j < wen tp L r k → srt tp L j = r := wen_ind (fun k s => ∀ j, k ≤ j → j < s → srt tp L j = r) (fun k _ j h1 h2 => by omega) (fun k s g e ih j h1 h2 => by
  by_cases q : j = k
  · subst q; exact e
  · exact ih j (by omega) h2) _ k rfl
theorem wen_out {r k : Nat} (hr : r ≠ 0) : srt tp L (wen tp L r k) ≠ r := wen_ind (fun _ s => srt tp L s ≠ r) (fun k h => by
  rcases h with h | h
  · rw [srt_ge h]; exact fun q => hr q.symm
  · exact h) (fun k s _ _ ih => ih) _ k rfl
theorem en_le {s : Nat} (h : s ≤ L) : en tp L s ≤ L := by
  unfold en
  by_cases a : srt tp L s = 3
  · rw [if_pos a]; have := srt_lt (tp := tp) (L := L) (k := s) (by omega); omega
  · rw [if_neg a]
    by_cases b : srt tp L s = 0
    · rw [if_pos b]; exact h
    · rw [if_neg b]; exact wen_le h
theorem en_gt {s : Nat} (h : srt tp L s ≠ 0) : s < en tp L s := by
  unfold en
  by_cases a : srt tp L s = 3
  · rw [if_pos a]; omega
  · rw [if_neg a, if_neg h, wen_s (srt_lt h) rfl]
    exact Nat.lt_of_lt_of_le (Nat.lt_succ_self s) (wen_ge _)
theorem en_ge (s : Nat) : s ≤ en tp L s := by
  by_cases h : srt tp L s = 0
  · unfold en; rw [if_neg (by omega), if_pos h]; exact Nat.le_refl s
  · exact Nat.le_of_lt (en_gt h)
theorem nxt_le {s : Nat} (h : s ≤ L) : nxt tp L s ≤ L := skb_le (en_le h)
theorem nxt_gt {s : Nat} (h : srt tp L s ≠ 0) : s < nxt tp L s := Nat.lt_of_lt_of_le (en_gt h) (skb_ge _)
/-- a word stands close behind another -/
abbrev nbl (tp : Row) (L s : Nat) : Prop := 0 < s ∧ srt tp L (s - 1) ≠ 3
theorem nbl_w {s : Nat} (h1 : srt tp L s ≠ 0) (h3 : srt tp L s ≠ 3) : nbl tp L (nxt tp L s) ↔ nxt tp L s = en tp L s := by
  have e : en tp L s = wen tp L (srt tp L s) s := by unfold en; rw [if_neg h3, if_neg h1]
  have g := en_gt h1
  have k := skb_ge (tp := tp) (L := L) (en tp L s)
  constructor
  · intro q
    rcases Nat.lt_or_ge (en tp L s) (nxt tp L s) with z | z
    · have := skb_bl (tp := tp) (L := L) (k := en tp L s) (nxt tp L s - 1) (by omega) (by show _ < nxt tp L s; omega)
      exact absurd (srt_32 this.1 this.2) q.2
    · show nxt tp L s = _; unfold nxt at *; omega
  · intro q
    rw [q]
    refine ⟨by omega, ?_⟩
    rw [e] at g ⊢
    rw [wen_in (tp := tp) (L := L) (r := srt tp L s) (k := s) _ (by omega) (by omega)]
    exact h3
theorem nbl_s {s : Nat} (h3 : srt tp L s = 3) : ¬ nbl tp L (nxt tp L s) := by
  have e : en tp L s = s + 1 := by unfold en; rw [if_pos h3]
  intro q
  rcases Nat.lt_or_ge (en tp L s) (nxt tp L s) with z | z
  · have := skb_bl (tp := tp) (L := L) (k := en tp L s) (nxt tp L s - 1) (by omega) (by show _ < nxt tp L s; omega)
    exact absurd (srt_32 this.1 this.2) q.2
  · have k := skb_ge (tp := tp) (L := L) (en tp L s)
    have : nxt tp L s = s + 1 := by unfold nxt at *; omega
    rw [this] at q
    exact q.2 h3
theorem nbl_0 : ¬ nbl tp L (skb tp L 0) := by
  intro q
  have := skb_bl (tp := tp) (L := L) (k := 0) (skb tp L 0 - 1) (by omega) (by have := q.1; omega)
  exact q.2 (srt_32 this.1 this.2)
end TOK
