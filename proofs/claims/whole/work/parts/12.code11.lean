theorem ab_okA {m : Nat} {a b : List ab_E} (ha : ab_ok m a) (hb : ab_ok m b) : ab_ok m (a ++ b) := by
  unfold ab_ok at *
  rw [List.all_append, ha, hb]
  rfl
def tt_mL_law : List ab_E := tt_law0 ++ (tt_law1 ++ (tt_law2 ++ (tt_law3 ++ (tt_law4 ++ (tt_law5 ++ (tt_law6 ++ (tt_law7 ++ (tt_law8 ++ (tt_law9 ++ (tt_law10 ++ (tt_law11 ++ (tt_law12 ++ (tt_law13 ++ (tt_law14 ++ (tt_law15 ++ (tt_law16 ++ (tt_law17)))))))))))))))))
theorem ok_mL_law : ab_ok 204 tt_mL_law := ab_okA ok_law0 (ab_okA ok_law1 (ab_okA ok_law2 (ab_okA ok_law3 (ab_okA ok_law4 (ab_okA ok_law5 (ab_okA ok_law6 (ab_okA ok_law7 (ab_okA ok_law8 (ab_okA ok_law9 (ab_okA ok_law10 (ab_okA ok_law11 (ab_okA ok_law12 (ab_okA ok_law13 (ab_okA ok_law14 (ab_okA ok_law15 (ab_okA ok_law16 (ok_law17)))))))))))))))))
