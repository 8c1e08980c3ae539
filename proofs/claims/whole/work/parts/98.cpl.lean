theorem cpl : CPL := sorry
