/-! who lies beside whom, by bits -/
def em_rB (n : Nat) (rg : Bool) (r : Nat) : Int32 := (nI r <<< ((1 : Int32) &&& 31)) ||| (cond rg ((nI r >>> ((nI n - 1) &&& 31)) &&& 1) 0)
def em_rH (n : Nat) (rg : Bool) (r : Nat) : Int32 := (nI r >>> ((1 : Int32) &&& 31)) ||| (cond rg ((nI r &&& 1) <<< ((nI n - 1) &&& 31)) 0)
theorem em_rB_ok : ∀ n, n < 10 → ∀ r, r < 2 ^ n → ∀ b, b < n → ∀ rg, (em_rB n rg r >>> (nI b &&& 31)) &&& 1 = em_bf n rg r b := by decide +kernel
theorem em_rH_ok : ∀ n, n < 10 → ∀ r, r < 2 ^ n → ∀ b, b < n → ∀ rg, (em_rH n rg r >>> (nI b &&& 31)) &&& 1 = em_bh n rg r b := by decide +kernel
