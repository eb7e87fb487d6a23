/-! small rows that the walker uses -/
theorem bw_bud {c n m k : Nat} (h : c + n ≤ m) (hk : k ≤ n) : c + k + (n - k) ≤ m := by omega
theorem bw_bud0 {c n m : Nat} (h : c + n ≤ m) : c + 0 + n ≤ m := h
def bw_b (v : Int32) : Prop := v = 0 ∨ v = 1
theorem bw_bn {v : Int32} (h : bw_b v) : narrow .boolean (.int v) = .int v := by rcases h with rfl | rfl <;> rfl
theorem bw_bf {v : Int32} (h : bw_b v) : fits .boolean (.int v) = true := by rcases h with rfl | rfl <;> rfl
theorem bw_is_new {w : Wd} {q kd n a ci : Nat} (hq : q ∉ wL w) (h : bw_is w a ci) : bw_is (bw_new w q kd n) a ci :=
  ⟨List.mem_append_left _ h.1, (va_up_ne (wK w) (k := q) (j := a) kd (fun e => hq (e ▸ h.1))).trans h.2⟩
theorem bw_is_self (w : Wd) (q kd n : Nat) : bw_is (bw_new w q kd n) q kd := ⟨List.mem_append_right _ List.mem_cons_self, va_up_self _ _ _⟩
theorem cat_i (v : Int32) : (Value.int v).category = 1 := rfl
theorem cat_j (v : Int64) : (Value.long v).category = 2 := rfl
