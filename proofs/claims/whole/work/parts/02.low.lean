/-! rows of the kit's PURE-ROWS, pasted -/
theorem pk_us {f : Nat → Int32} {k : Nat} {x : Int32} : upd f k x k = x := sorry
theorem pk_un {f : Nat → Int32} {k j : Nat} {x : Int32} (h : j ≠ k) : upd f k x j = f j := sorry
theorem pk_uLs {f : Nat → Int64} {k : Nat} {x : Int64} : vp_updL f k x k = x := sorry
theorem pk_uLn {f : Nat → Int64} {k j : Nat} {x : Int64} (h : j ≠ k) : vp_updL f k x j = f j := sorry
theorem pk_sub {a b : Nat} (h : b ≤ a) : nI a - nI b = nI (a - b) := sorry
theorem pk_m1 (n : Nat) : nI (n + 1) + (-1) = nI n := sorry
theorem pk_mul (a b : Nat) : nI a * nI b = nI (a * b) := sorry

theorem pk_tn {n : Nat} (h : n < 2 ^ 32) : (nI n).toBitVec.toNat = n := sorry
theorem pk_and (x : Int32) {m : Int32} (k : Nat) (hm : m.toBitVec.toNat = 2 ^ k - 1) : x &&& m = nI (x.toBitVec.toNat % 2 ^ k) := sorry
theorem pk_andE (x : Int32) {m : Int32} (k : Nat) (hm : m.toBitVec.toNat = 2 ^ k - 1) : ∃ j : Nat, j < 2 ^ k ∧ x &&& m = nI j := sorry
theorem pk_andIn (x : Int32) {m : Int32} (k : Nat) (hm : m.toBitVec.toNat = 2 ^ k - 1) (hk : k ≤ 30) : vp_in (x &&& m) (2 ^ k) := sorry

/-! X: small methods -/
theorem xe_top {g d : Nat} : ((nI g * 4) + nI (d + 1)) - 1 = nI (4 * g + d) := sorry
theorem xp_topOf {post : Int32 → Prop} {u : SX} {g d : Nat} (hg : g < 12) (hd : xa_depth u g = nI (d + 1)) (h : post (nI (4 * g + d))) : wpX_topOf post u (nI g) := sorry
theorem xp_panic {post : SX → Prop} {u : SX} {t : Nat} {v : Int32} (ht : t < 48) (h : post (xs_panicOf (xs_mode u (upd (xa_mode u) t 2)) (upd (xa_panicOf u) t v))) : wpX_panic post u (nI t) v := sorry
theorem xt_eta {post : SX → Prop} {u : SX} (h : post u) : (match u with | (f_lineCount, f_functionCount, f_foundLine, f_state, f_time, f_endingPanic, f_outputCount, f_channelCount, f_goroutineCount, f_waitsBegun, f_running, f_queueLength, a_kinds, a_argA, a_argB, a_argC, a_blockOf, a_endOf, a_elseOf, a_functionLine, a_surelySet, a_outputs, a_capacity, a_fill, a_closed, a_held, a_status, a_depth, a_waitOrder, a_waitUntil, a_queue, a_slotWish, a_slotLine, a_position, a_mode, a_panicOf, a_noteCount, a_noteFunction, a_noteValues, a_variables) => post (f_lineCount, f_functionCount, f_foundLine, f_state, f_time, f_endingPanic, f_outputCount, f_channelCount, f_goroutineCount, f_waitsBegun, f_running, f_queueLength, a_kinds, a_argA, a_argB, a_argC, a_blockOf, a_endOf, a_elseOf, a_functionLine, a_surelySet, a_outputs, a_capacity, a_fill, a_closed, a_held, a_status, a_depth, a_waitOrder, a_waitUntil, a_queue, a_slotWish, a_slotLine, a_position, a_mode, a_panicOf, a_noteCount, a_noteFunction, a_noteValues, a_variables)) := sorry
