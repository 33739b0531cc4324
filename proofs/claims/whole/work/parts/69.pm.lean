/-! PURE: the reference's way of reading, step by step -/
abbrev PM : Type := Nat × List Int32 × List Int32 × Bool × List Bool × Nat
abbrev PM.s (M : PM) : Nat := M.1
abbrev PM.cd (M : PM) : List Int32 := M.2.1
abbrev PM.st (M : PM) : List Int32 := M.2.2.1
abbrev PM.w (M : PM) : Bool := M.2.2.2.1
abbrev PM.ts (M : PM) : List Bool := M.2.2.2.2.1
abbrev PM.na (M : PM) : Nat := M.2.2.2.2.2
def rkS (o : Int32) : Nat := if o = -1 then 1 else if o = -2 then 2 else if -5 ≤ o then 3 else if -7 ≤ o then 4 else if -9 ≤ o then 5 else 6
def opOf (c : Int32) : Int32 := if c = 124 then -1 else if c = 38 then -2 else if c = 60 then -3 else if c = 61 then -4 else if c = 62 then -5 else if c = 43 then -6 else if c = 45 then -7 else if c = 42 then -8 else if c = 47 then -9 else 0
def stl (r : Nat) : List Int32 → List Int32 → List Int32 × List Int32
  | cd, [] => (cd, [])
  | cd, o :: st => if o ≠ -11 ∧ r ≤ rkS o then stl r (cd ++ [o]) st else (cd, o :: st)
def cN (st : List Int32) : Nat := st.count (-10)
def cO (st : List Int32) : Nat := st.count (-11)
def hdT (ts : List Bool) : Bool := ts.headD false
def stp (tp : Row) (L key : Nat) (M : PM) : Option PM :=
  if M.w = true then
    if tsg tp L M.s = 33 ∧ cN M.st < 8 then some ⟨nxt tp L M.s, M.cd, -10 :: M.st, true, M.ts, M.na⟩
    else if tsg tp L M.s = 40 ∧ cO M.st < 8 then some ⟨nxt tp L M.s, M.cd, -11 :: M.st, true, false :: M.ts, M.na⟩
    else match prt tp L key M.s with
      | some v => some ⟨nxt tp L M.s, (stl 6 (M.cd ++ [v]) M.st).1, (stl 6 (M.cd ++ [v]) M.st).2, false, M.ts, M.na + 1⟩
      | none => none
  else if srt tp L M.s = 0 then none
  else if tsg tp L M.s = 41 ∧ 0 < cO M.st then some ⟨nxt tp L M.s, (stl 6 (stl 0 M.cd M.st).1 (stl 0 M.cd M.st).2.tail).1, (stl 6 (stl 0 M.cd M.st).1 (stl 0 M.cd M.st).2.tail).2, false, M.ts.tail, M.na⟩
  else if opOf (tsg tp L M.s) = 0 ∨ (rkS (opOf (tsg tp L M.s)) = 3 ∧ hdT M.ts = true) then none
  else some ⟨nxt tp L M.s, (stl (rkS (opOf (tsg tp L M.s))) M.cd M.st).1, opOf (tsg tp L M.s) :: (stl (rkS (opOf (tsg tp L M.s))) M.cd M.st).2, true, (decide (rkS (opOf (tsg tp L M.s)) = 3) || (decide (3 < rkS (opOf (tsg tp L M.s))) && hdT M.ts)) :: M.ts.tail, M.na⟩
def RchN (tp : Row) (L key : Nat) : Nat → PM → PM → Prop
  | 0, M, M' => M = M'
  | n + 1, M, M' => ∃ M1, stp tp L key M = some M1 ∧ RchN tp L key n M1 M'
def Rch (tp : Row) (L key : Nat) (M M' : PM) : Prop := ∃ n, RchN tp L key n M M'
theorem Rch.here {tp : Row} {L key : Nat} (M : PM) : Rch tp L key M M := ⟨0, rfl⟩
theorem Rch.on {tp : Row} {L key : Nat} {M M1 M2 : PM} (h : stp tp L key M = some M1) (g : Rch tp L key M1 M2) : Rch tp L key M M2 := by
  obtain ⟨n, hn⟩ := g
  exact ⟨n + 1, M1, h, hn⟩
theorem Rch.ind {tp : Row} {L key : Nat} {motive : PM → PM → Prop} (h0 : ∀ M, motive M M) (h1 : ∀ M M1 M2, stp tp L key M = some M1 → Rch tp L key M1 M2 → motive M1 M2 → motive M M2) {M M' : PM} (h : Rch tp L key M M') : motive M M' := by
  obtain ⟨n, hn⟩ := h
  induction n generalizing M with
  | zero =>
    have : M = M' := hn
    subst this
    exact h0 M
  | succ n ih =>
    obtain ⟨M1, a, b⟩ := hn
    exact h1 M M1 M' a ⟨n, b⟩ (ih b)
/-- the text ends wrongly here -/
def Fl (tp : Row) (L key : Nat) (M : PM) : Prop := stp tp L key M = none ∧ ¬ (M.w = false ∧ srt tp L M.s = 0 ∧ cO M.st = 0)
def Tp (r : Nat) (st : List Int32) : Prop := ∀ o rest, st = o :: rest → o = -11 ∨ rkS o < r
def PR (r : Nat) (P : List Int32) : Prop := ∀ o ∈ P, o ≠ -11 ∧ o ≠ -10 ∧ r ≤ rkS o
def Nx (tp : Row) (L r s : Nat) (t : Bool) : Prop := opOf (tsg tp L s) = 0 ∨ rkS (opOf (tsg tp L s)) < r ∨ (rkS (opOf (tsg tp L s)) = 3 ∧ t = true)
def Bud (M : PM) : Prop := M.cd.length + M.st.length < M.s
section PM
variable {tp : Row} {L key : Nat}
theorem Rch.trans {M1 M2 M3 : PM} (h : Rch tp L key M1 M2) : Rch tp L key M2 M3 → Rch tp L key M1 M3 :=
  Rch.ind (motive := fun A B => Rch tp L key B M3 → Rch tp L key A M3) (fun _ g => g) (fun M M1 M2 a _ ih g => Rch.on a (ih g)) h
theorem Rch.one {M1 M2 : PM} (h : stp tp L key M1 = some M2) : Rch tp L key M1 M2 := Rch.on h (Rch.here _)
theorem stl_all {r : Nat} {st : List Int32} (hT : Tp r st) : ∀ (P cd : List Int32), (∀ o ∈ P, o ≠ -11 ∧ r ≤ rkS o) → stl r cd (P ++ st) = (cd ++ P, st)
  | [], cd, _ => by
    rw [List.nil_append, List.append_nil]
    cases st with
    | nil => rfl
    | cons o rest =>
      rw [stl, if_neg]
      intro q
      rcases hT o rest rfl with h | h
      · exact q.1 h
      · omega
  | o :: P, cd, h => by
    rw [List.cons_append, stl, if_pos (h o List.mem_cons_self), stl_all hT P (cd ++ [o]) (fun x hx => h x (List.mem_cons_of_mem _ hx)), List.append_assoc]
    rfl
theorem stl_len {r : Nat} : ∀ (st cd : List Int32), (stl r cd st).1.length + (stl r cd st).2.length = cd.length + st.length
  | [], cd => rfl
  | o :: st, cd => by
    rw [stl]
    split
    · rw [stl_len st (cd ++ [o])]; simp; omega
    · rfl
theorem tl_len (l : List Int32) : l.tail.length ≤ l.length := by simp
theorem tsg_3 {s : Nat} {c : Int32} (h : tsg tp L s = c) (hc : c ≠ -1) : srt tp L s = 3 := by
  unfold tsg at h
  by_cases q : srt tp L s = 3
  · exact q
  · rw [if_neg q] at h; exact absurd h.symm hc
theorem op_3 {s : Nat} (h : opOf (tsg tp L s) ≠ 0) : srt tp L s = 3 := by
  unfold tsg at h
  by_cases q : srt tp L s = 3
  · exact q
  · rw [if_neg q] at h; exact absurd (by decide) h
theorem prt_0 {s : Nat} {v : Int32} (h : prt tp L key s = some v) : srt tp L s ≠ 0 ∧ srt tp L s ≠ 3 := by
  unfold prt at h
  split at h
  · cases h
  · split at h
    · omega
    · split at h
      · omega
      · cases h
theorem stp_s {M M1 : PM} (h : stp tp L key M = some M1) : M1.s = nxt tp L M.s ∧ srt tp L M.s ≠ 0 ∧ M1.cd.length + M1.st.length ≤ M.cd.length + M.st.length + 1 := by
  unfold stp at h
  split at h
  · split at h
    · rename_i h2
      cases h
      exact ⟨rfl, by rw [tsg_3 h2.1 (by decide)]; decide, by show M.2.1.length + (_ :: M.2.2.1).length ≤ _; rw [List.length_cons]; exact Nat.le_refl _⟩
    · split at h
      · rename_i h2
        cases h
        exact ⟨rfl, by rw [tsg_3 h2.1 (by decide)]; decide, by show M.2.1.length + (_ :: M.2.2.1).length ≤ _; rw [List.length_cons]; exact Nat.le_refl _⟩
      · split at h
        · rename_i v hv
          cases h
          refine ⟨rfl, (prt_0 hv).1, ?_⟩
          show (stl 6 _ _).1.length + (stl 6 _ _).2.length ≤ _
          rw [stl_len]; simp; omega
        · cases h
  · split at h
    · cases h
    · rename_i h0
      split at h
      · cases h
        refine ⟨rfl, h0, ?_⟩
        show (stl 6 _ _).1.length + (stl 6 _ _).2.length ≤ _
        rw [stl_len]
        have a := tl_len (stl 0 M.cd M.st).2
        have b := stl_len (r := 0) M.st M.cd
        omega
      · split at h
        · cases h
        · cases h
          refine ⟨rfl, h0, ?_⟩
          show (stl _ _ _).1.length + (_ :: (stl _ _ _).2).length ≤ _
          have b := stl_len (r := rkS (opOf (tsg tp L M.s))) M.st M.cd
          rw [List.length_cons]; omega
theorem Bud.on {M M1 : PM} (h : stp tp L key M = some M1) (hb : Bud M) : Bud M1 := by
  obtain ⟨e, h0, hl⟩ := stp_s h
  unfold Bud at *
  have := nxt_gt (tp := tp) (L := L) h0
  omega
theorem Bud.rch {M M1 : PM} (h : Rch tp L key M M1) : Bud M → Bud M1 :=
  Rch.ind (motive := fun A B => Bud A → Bud B) (fun _ g => g) (fun M M1 M2 a _ ih g => ih (Bud.on a g)) h
theorem Rch.sle {M M1 : PM} (h : Rch tp L key M M1) : M.s ≤ M1.s :=
  Rch.ind (motive := fun A B => A.s ≤ B.s) (fun _ => Nat.le_refl _) (fun M M1 M2 a _ ih => by
    obtain ⟨e, h0, _⟩ := stp_s a
    have := nxt_gt (tp := tp) (L := L) h0
    omega) h
/-- a sign of rank r between two pieces -/
theorem stp_op {M : PM} {r : Nat} {st P : List Int32} {t : Bool} {tl : List Bool} (hw : M.w = false) (hst : M.st = P ++ st) (hP : PR r P) (hT : Tp r st) (hts : M.ts = t :: tl) (ho : opOf (tsg tp L M.s) ≠ 0) (hr : rkS (opOf (tsg tp L M.s)) = r) (h3 : ¬ (r = 3 ∧ t = true)) (h41 : tsg tp L M.s ≠ 41) : stp tp L key M = some ⟨nxt tp L M.s, M.cd ++ P, opOf (tsg tp L M.s) :: st, true, (decide (r = 3) || (decide (3 < r) && t)) :: tl, M.na⟩ := by
  unfold stp
  have hs3 := op_3 ho
  rw [if_neg (by rw [hw]; decide), if_neg (by omega), if_neg (fun z => h41 z.1), if_neg, hr, hst, stl_all hT P M.cd (fun o h => ⟨(hP o h).1, (hP o h).2.2⟩), hts]
  · rfl
  · rw [hr, hts]
    intro z
    rcases z with z | z
    · exact ho z
    · exact h3 z
end PM
