/-! rows of the kit's PURE-ROWS, pasted -/
theorem pk_us {f : Nat → Int32} {k : Nat} {x : Int32} : upd f k x k = x := if_pos rfl
theorem pk_un {f : Nat → Int32} {k j : Nat} {x : Int32} (h : j ≠ k) : upd f k x j = f j := if_neg h
theorem pk_uLs {f : Nat → Int64} {k : Nat} {x : Int64} : vp_updL f k x k = x := if_pos rfl
theorem pk_uLn {f : Nat → Int64} {k j : Nat} {x : Int64} (h : j ≠ k) : vp_updL f k x j = f j := if_neg h
theorem pk_sub {a b : Nat} (h : b ≤ a) : nI a - nI b = nI (a - b) := by
  obtain ⟨c, rfl⟩ : ∃ c, a = c + b := ⟨a - b, by omega⟩
  rw [← nI_add, Int32.add_sub_cancel, Nat.add_sub_cancel]
theorem pk_m1 (n : Nat) : nI (n + 1) + (-1) = nI n := by
  rw [← nI_1, Int32.add_assoc, show (1 : Int32) + (-1) = 0 from rfl, Int32.add_zero]
theorem pk_mul (a b : Nat) : nI a * nI b = nI (a * b) := (Int32.ofNat_mul a b).symm

theorem pk_tn {n : Nat} (h : n < 2 ^ 32) : (nI n).toBitVec.toNat = n := Nat.mod_eq_of_lt h
theorem pk_and (x : Int32) {m : Int32} (k : Nat) (hm : m.toBitVec.toNat = 2 ^ k - 1) : x &&& m = nI (x.toBitVec.toNat % 2 ^ k) := by
  apply Int32.toBitVec_inj.mp
  apply BitVec.eq_of_toNat_eq
  rw [Int32.toBitVec_and, BitVec.toNat_and, hm, Nat.and_two_pow_sub_one_eq_mod]
  show _ = (BitVec.ofNat 32 _).toNat
  rw [BitVec.toNat_ofNat]
  exact (Nat.mod_eq_of_lt (Nat.lt_of_le_of_lt (Nat.mod_le _ _) x.toBitVec.isLt)).symm
theorem pk_andE (x : Int32) {m : Int32} (k : Nat) (hm : m.toBitVec.toNat = 2 ^ k - 1) : ∃ j : Nat, j < 2 ^ k ∧ x &&& m = nI j := ⟨_, Nat.mod_lt _ (Nat.two_pow_pos k), pk_and x k hm⟩
theorem pk_andIn (x : Int32) {m : Int32} (k : Nat) (hm : m.toBitVec.toNat = 2 ^ k - 1) (hk : k ≤ 30) : vp_in (x &&& m) (2 ^ k) := by
  obtain ⟨j, hj, e⟩ := pk_andE x k hm
  rw [e]
  exact vp_in_nI hj (Nat.lt_of_le_of_lt (Nat.pow_le_pow_right (by decide) hk) (by decide))

/-! X: small methods -/
theorem xe_top {g d : Nat} : ((nI g * 4) + nI (d + 1)) - 1 = nI (4 * g + d) := by
  rw [show (4 : Int32) = nI 4 from rfl, pk_mul, nI_add, show (1 : Int32) = nI 1 from rfl, pk_sub (by omega)]
  exact congrArg nI (by omega)
theorem xp_topOf {post : Int32 → Prop} {u : SX} {g d : Nat} (hg : g < 12) (hd : xa_depth u g = nI (d + 1)) (h : post (nI (4 * g + d))) : wpX_topOf post u (nI g) := by
  obtain ⟨f_lineCount, f_functionCount, f_foundLine, f_state, f_time, f_endingPanic, f_outputCount, f_channelCount, f_goroutineCount, f_waitsBegun, f_running, f_queueLength, a_kinds, a_argA, a_argB, a_argC, a_blockOf, a_endOf, a_elseOf, a_functionLine, a_surelySet, a_outputs, a_capacity, a_fill, a_closed, a_held, a_status, a_depth, a_waitOrder, a_waitUntil, a_queue, a_slotWish, a_slotLine, a_position, a_mode, a_panicOf, a_noteCount, a_noteFunction, a_noteValues, a_variables⟩ := u
  refine ⟨vp_in_nI hg (by decide), ?_⟩
  have e : a_depth g = nI (d + 1) := hd
  rw [nI_clamp (by omega), e, xe_top]
  exact h
theorem xp_panic {post : SX → Prop} {u : SX} {t : Nat} {v : Int32} (ht : t < 48) (h : post (xs_panicOf (xs_mode u (upd (xa_mode u) t 2)) (upd (xa_panicOf u) t v))) : wpX_panic post u (nI t) v := by
  obtain ⟨f_lineCount, f_functionCount, f_foundLine, f_state, f_time, f_endingPanic, f_outputCount, f_channelCount, f_goroutineCount, f_waitsBegun, f_running, f_queueLength, a_kinds, a_argA, a_argB, a_argC, a_blockOf, a_endOf, a_elseOf, a_functionLine, a_surelySet, a_outputs, a_capacity, a_fill, a_closed, a_held, a_status, a_depth, a_waitOrder, a_waitUntil, a_queue, a_slotWish, a_slotLine, a_position, a_mode, a_panicOf, a_noteCount, a_noteFunction, a_noteValues, a_variables⟩ := u
  have e : (nI t).toNatClampNeg = t := nI_clamp (by omega)
  refine ⟨vp_in_nI ht (by decide), nm_r (by rw [e]) ⟨vp_in_nI ht (by decide), nm_r (by rw [e]) ?_⟩⟩
  exact h
theorem xt_eta {post : SX → Prop} {u : SX} (h : post u) : (match u with | (f_lineCount, f_functionCount, f_foundLine, f_state, f_time, f_endingPanic, f_outputCount, f_channelCount, f_goroutineCount, f_waitsBegun, f_running, f_queueLength, a_kinds, a_argA, a_argB, a_argC, a_blockOf, a_endOf, a_elseOf, a_functionLine, a_surelySet, a_outputs, a_capacity, a_fill, a_closed, a_held, a_status, a_depth, a_waitOrder, a_waitUntil, a_queue, a_slotWish, a_slotLine, a_position, a_mode, a_panicOf, a_noteCount, a_noteFunction, a_noteValues, a_variables) => post (f_lineCount, f_functionCount, f_foundLine, f_state, f_time, f_endingPanic, f_outputCount, f_channelCount, f_goroutineCount, f_waitsBegun, f_running, f_queueLength, a_kinds, a_argA, a_argB, a_argC, a_blockOf, a_endOf, a_elseOf, a_functionLine, a_surelySet, a_outputs, a_capacity, a_fill, a_closed, a_held, a_status, a_depth, a_waitOrder, a_waitUntil, a_queue, a_slotWish, a_slotLine, a_position, a_mode, a_panicOf, a_noteCount, a_noteFunction, a_noteValues, a_variables)) := h
