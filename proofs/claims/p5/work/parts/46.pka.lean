/-! THE REFERENCE'S LONGS: the finite part -/
/-- the part of an edge's long that is below 2 to the 32 -/
def pkY (k i o : Nat) : Int64 := (((nI k).toInt64 <<< ((24 : Int32).toInt64 &&& 63)) ||| ((nI i).toInt64 <<< ((8 : Int32).toInt64 &&& 63))) ||| (nI o).toInt64
set_option maxRecDepth 100000 in
set_option maxHeartbeats 4000000 in
theorem pkY_facts : ∀ k, k < 3 → ∀ i, i < 61 → ∀ o, o < 8 → (pkY k i o >>> ((32 : Int32).toInt64 &&& 63) = 0 ∧ ((pkY k i o >>> ((24 : Int32).toInt64 &&& 63)) &&& (255 : Int64)).toInt32 = nI k ∧ ((pkY k i o >>> ((8 : Int32).toInt64 &&& 63)) &&& (65535 : Int64)).toInt32 = nI i ∧ ((pkY k i o >>> ((8 : Int32).toInt64 &&& 63)) &&& (255 : Int64)).toInt32 = nI i ∧ (pkY k i o &&& (255 : Int64)).toInt32 = nI o) := by
  decide +kernel
