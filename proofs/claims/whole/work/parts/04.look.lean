/-! the pure machine: cells by their numbers (0: the script), ints, longs and references apart; written for this claim -/
def em_ins (ix pc : Nat) : Option (Instr × Nat) := cond (Nat.blt ix em_n && Nat.blt pc (em_sz ix)) (em_inz ix pc) none
def em_fld (o i : Nat) : Option (Nat × Nat × Nat × Bool) := cond (Nat.blt o 20 && Nat.blt i 1100) (em_fldz (2000 * o + i)) none
def em_mth (o i : Nat) : Option (Nat × Nat) := cond (Nat.blt o 20 && Nat.blt i 1100) (em_mthz (2000 * o + i)) none
def em_csl (o i : Nat) : Option (Int64 × Nat) := cond (Nat.blt o 20 && Nat.blt i 1100) (em_cslz (2000 * o + i)) none
def em_cst (o i : Nat) : Option (Int × Nat) := cond (Nat.blt o 20 && Nat.blt i 1100) (em_cstz (2000 * o + i)) none
def em_cls (o i : Nat) : Option Nat := cond (Nat.blt o 20 && Nat.blt i 1100) (em_clsz (2000 * o + i)) none
def em_sfl (o i : Nat) : Option (Nat × Nat) := cond (Nat.blt o 20 && Nat.blt i 1100) (em_sflz (2000 * o + i)) none
def em_str (o i : Nat) : Option Nat := cond (Nat.blt o 20 && Nat.blt i 1100) (em_strz (2000 * o + i)) none
