section
/-! accessors and setters of the two states -/
def xa_lineCount (u : SX) : Int32 := match u with | (a, _, _, _, _, _, _, _, _, _, _, _, _, _, _, _, _, _, _, _, _, _, _, _, _, _, _, _, _, _, _, _, _, _, _, _, _, _, _, _) => a
def xa_functionCount (u : SX) : Int32 := match u with | (_, a, _, _, _, _, _, _, _, _, _, _, _, _, _, _, _, _, _, _, _, _, _, _, _, _, _, _, _, _, _, _, _, _, _, _, _, _, _, _) => a
def xa_foundLine (u : SX) : Int32 := match u with | (_, _, a, _, _, _, _, _, _, _, _, _, _, _, _, _, _, _, _, _, _, _, _, _, _, _, _, _, _, _, _, _, _, _, _, _, _, _, _, _) => a
def xa_state (u : SX) : Int32 := match u with | (_, _, _, a, _, _, _, _, _, _, _, _, _, _, _, _, _, _, _, _, _, _, _, _, _, _, _, _, _, _, _, _, _, _, _, _, _, _, _, _) => a
def xa_time (u : SX) : Int64 := match u with | (_, _, _, _, a, _, _, _, _, _, _, _, _, _, _, _, _, _, _, _, _, _, _, _, _, _, _, _, _, _, _, _, _, _, _, _, _, _, _, _) => a
def xa_endingPanic (u : SX) : Int32 := match u with | (_, _, _, _, _, a, _, _, _, _, _, _, _, _, _, _, _, _, _, _, _, _, _, _, _, _, _, _, _, _, _, _, _, _, _, _, _, _, _, _) => a
def xa_outputCount (u : SX) : Int32 := match u with | (_, _, _, _, _, _, a, _, _, _, _, _, _, _, _, _, _, _, _, _, _, _, _, _, _, _, _, _, _, _, _, _, _, _, _, _, _, _, _, _) => a
def xa_channelCount (u : SX) : Int32 := match u with | (_, _, _, _, _, _, _, a, _, _, _, _, _, _, _, _, _, _, _, _, _, _, _, _, _, _, _, _, _, _, _, _, _, _, _, _, _, _, _, _) => a
def xa_goroutineCount (u : SX) : Int32 := match u with | (_, _, _, _, _, _, _, _, a, _, _, _, _, _, _, _, _, _, _, _, _, _, _, _, _, _, _, _, _, _, _, _, _, _, _, _, _, _, _, _) => a
def xa_waitsBegun (u : SX) : Int32 := match u with | (_, _, _, _, _, _, _, _, _, a, _, _, _, _, _, _, _, _, _, _, _, _, _, _, _, _, _, _, _, _, _, _, _, _, _, _, _, _, _, _) => a
def xa_running (u : SX) : Int32 := match u with | (_, _, _, _, _, _, _, _, _, _, a, _, _, _, _, _, _, _, _, _, _, _, _, _, _, _, _, _, _, _, _, _, _, _, _, _, _, _, _, _) => a
def xa_queueLength (u : SX) : Int32 := match u with | (_, _, _, _, _, _, _, _, _, _, _, a, _, _, _, _, _, _, _, _, _, _, _, _, _, _, _, _, _, _, _, _, _, _, _, _, _, _, _, _) => a
def xa_kinds (u : SX) : Nat → Int32 := match u with | (_, _, _, _, _, _, _, _, _, _, _, _, a, _, _, _, _, _, _, _, _, _, _, _, _, _, _, _, _, _, _, _, _, _, _, _, _, _, _, _) => a
def xa_argA (u : SX) : Nat → Int32 := match u with | (_, _, _, _, _, _, _, _, _, _, _, _, _, a, _, _, _, _, _, _, _, _, _, _, _, _, _, _, _, _, _, _, _, _, _, _, _, _, _, _) => a
def xa_argB (u : SX) : Nat → Int32 := match u with | (_, _, _, _, _, _, _, _, _, _, _, _, _, _, a, _, _, _, _, _, _, _, _, _, _, _, _, _, _, _, _, _, _, _, _, _, _, _, _, _) => a
def xa_argC (u : SX) : Nat → Int32 := match u with | (_, _, _, _, _, _, _, _, _, _, _, _, _, _, _, a, _, _, _, _, _, _, _, _, _, _, _, _, _, _, _, _, _, _, _, _, _, _, _, _) => a
def xa_blockOf (u : SX) : Nat → Int32 := match u with | (_, _, _, _, _, _, _, _, _, _, _, _, _, _, _, _, a, _, _, _, _, _, _, _, _, _, _, _, _, _, _, _, _, _, _, _, _, _, _, _) => a
def xa_endOf (u : SX) : Nat → Int32 := match u with | (_, _, _, _, _, _, _, _, _, _, _, _, _, _, _, _, _, a, _, _, _, _, _, _, _, _, _, _, _, _, _, _, _, _, _, _, _, _, _, _) => a
def xa_elseOf (u : SX) : Nat → Int32 := match u with | (_, _, _, _, _, _, _, _, _, _, _, _, _, _, _, _, _, _, a, _, _, _, _, _, _, _, _, _, _, _, _, _, _, _, _, _, _, _, _, _) => a
def xa_functionLine (u : SX) : Nat → Int32 := match u with | (_, _, _, _, _, _, _, _, _, _, _, _, _, _, _, _, _, _, _, a, _, _, _, _, _, _, _, _, _, _, _, _, _, _, _, _, _, _, _, _) => a
def xa_surelySet (u : SX) : Nat → Int32 := match u with | (_, _, _, _, _, _, _, _, _, _, _, _, _, _, _, _, _, _, _, _, a, _, _, _, _, _, _, _, _, _, _, _, _, _, _, _, _, _, _, _) => a
def xa_outputs (u : SX) : Nat → Int32 := match u with | (_, _, _, _, _, _, _, _, _, _, _, _, _, _, _, _, _, _, _, _, _, a, _, _, _, _, _, _, _, _, _, _, _, _, _, _, _, _, _, _) => a
def xa_capacity (u : SX) : Nat → Int32 := match u with | (_, _, _, _, _, _, _, _, _, _, _, _, _, _, _, _, _, _, _, _, _, _, a, _, _, _, _, _, _, _, _, _, _, _, _, _, _, _, _, _) => a
def xa_fill (u : SX) : Nat → Int32 := match u with | (_, _, _, _, _, _, _, _, _, _, _, _, _, _, _, _, _, _, _, _, _, _, _, a, _, _, _, _, _, _, _, _, _, _, _, _, _, _, _, _) => a
def xa_closed (u : SX) : Nat → Int32 := match u with | (_, _, _, _, _, _, _, _, _, _, _, _, _, _, _, _, _, _, _, _, _, _, _, _, a, _, _, _, _, _, _, _, _, _, _, _, _, _, _, _) => a
def xa_held (u : SX) : Nat → Int32 := match u with | (_, _, _, _, _, _, _, _, _, _, _, _, _, _, _, _, _, _, _, _, _, _, _, _, _, a, _, _, _, _, _, _, _, _, _, _, _, _, _, _) => a
def xa_status (u : SX) : Nat → Int32 := match u with | (_, _, _, _, _, _, _, _, _, _, _, _, _, _, _, _, _, _, _, _, _, _, _, _, _, _, a, _, _, _, _, _, _, _, _, _, _, _, _, _) => a
def xa_depth (u : SX) : Nat → Int32 := match u with | (_, _, _, _, _, _, _, _, _, _, _, _, _, _, _, _, _, _, _, _, _, _, _, _, _, _, _, a, _, _, _, _, _, _, _, _, _, _, _, _) => a
def xa_waitOrder (u : SX) : Nat → Int32 := match u with | (_, _, _, _, _, _, _, _, _, _, _, _, _, _, _, _, _, _, _, _, _, _, _, _, _, _, _, _, a, _, _, _, _, _, _, _, _, _, _, _) => a
def xa_waitUntil (u : SX) : Nat → Int64 := match u with | (_, _, _, _, _, _, _, _, _, _, _, _, _, _, _, _, _, _, _, _, _, _, _, _, _, _, _, _, _, a, _, _, _, _, _, _, _, _, _, _) => a
def xa_queue (u : SX) : Nat → Int32 := match u with | (_, _, _, _, _, _, _, _, _, _, _, _, _, _, _, _, _, _, _, _, _, _, _, _, _, _, _, _, _, _, a, _, _, _, _, _, _, _, _, _) => a
def xa_slotWish (u : SX) : Nat → Int32 := match u with | (_, _, _, _, _, _, _, _, _, _, _, _, _, _, _, _, _, _, _, _, _, _, _, _, _, _, _, _, _, _, _, a, _, _, _, _, _, _, _, _) => a
def xa_slotLine (u : SX) : Nat → Int32 := match u with | (_, _, _, _, _, _, _, _, _, _, _, _, _, _, _, _, _, _, _, _, _, _, _, _, _, _, _, _, _, _, _, _, a, _, _, _, _, _, _, _) => a
def xa_position (u : SX) : Nat → Int32 := match u with | (_, _, _, _, _, _, _, _, _, _, _, _, _, _, _, _, _, _, _, _, _, _, _, _, _, _, _, _, _, _, _, _, _, a, _, _, _, _, _, _) => a
def xa_mode (u : SX) : Nat → Int32 := match u with | (_, _, _, _, _, _, _, _, _, _, _, _, _, _, _, _, _, _, _, _, _, _, _, _, _, _, _, _, _, _, _, _, _, _, a, _, _, _, _, _) => a
def xa_panicOf (u : SX) : Nat → Int32 := match u with | (_, _, _, _, _, _, _, _, _, _, _, _, _, _, _, _, _, _, _, _, _, _, _, _, _, _, _, _, _, _, _, _, _, _, _, a, _, _, _, _) => a
def xa_noteCount (u : SX) : Nat → Int32 := match u with | (_, _, _, _, _, _, _, _, _, _, _, _, _, _, _, _, _, _, _, _, _, _, _, _, _, _, _, _, _, _, _, _, _, _, _, _, a, _, _, _) => a
def xa_noteFunction (u : SX) : Nat → Int32 := match u with | (_, _, _, _, _, _, _, _, _, _, _, _, _, _, _, _, _, _, _, _, _, _, _, _, _, _, _, _, _, _, _, _, _, _, _, _, _, a, _, _) => a
def xa_noteValues (u : SX) : Nat → Int32 := match u with | (_, _, _, _, _, _, _, _, _, _, _, _, _, _, _, _, _, _, _, _, _, _, _, _, _, _, _, _, _, _, _, _, _, _, _, _, _, _, a, _) => a
def xa_variables (u : SX) : Nat → Int32 := match u with | (_, _, _, _, _, _, _, _, _, _, _, _, _, _, _, _, _, _, _, _, _, _, _, _, _, _, _, _, _, _, _, _, _, _, _, _, _, _, _, a) => a
def xs_lineCount (u : SX) (a : Int32) : SX := (a, xa_functionCount u, xa_foundLine u, xa_state u, xa_time u, xa_endingPanic u, xa_outputCount u, xa_channelCount u, xa_goroutineCount u, xa_waitsBegun u, xa_running u, xa_queueLength u, xa_kinds u, xa_argA u, xa_argB u, xa_argC u, xa_blockOf u, xa_endOf u, xa_elseOf u, xa_functionLine u, xa_surelySet u, xa_outputs u, xa_capacity u, xa_fill u, xa_closed u, xa_held u, xa_status u, xa_depth u, xa_waitOrder u, xa_waitUntil u, xa_queue u, xa_slotWish u, xa_slotLine u, xa_position u, xa_mode u, xa_panicOf u, xa_noteCount u, xa_noteFunction u, xa_noteValues u, xa_variables u)
def xs_functionCount (u : SX) (a : Int32) : SX := (xa_lineCount u, a, xa_foundLine u, xa_state u, xa_time u, xa_endingPanic u, xa_outputCount u, xa_channelCount u, xa_goroutineCount u, xa_waitsBegun u, xa_running u, xa_queueLength u, xa_kinds u, xa_argA u, xa_argB u, xa_argC u, xa_blockOf u, xa_endOf u, xa_elseOf u, xa_functionLine u, xa_surelySet u, xa_outputs u, xa_capacity u, xa_fill u, xa_closed u, xa_held u, xa_status u, xa_depth u, xa_waitOrder u, xa_waitUntil u, xa_queue u, xa_slotWish u, xa_slotLine u, xa_position u, xa_mode u, xa_panicOf u, xa_noteCount u, xa_noteFunction u, xa_noteValues u, xa_variables u)
def xs_foundLine (u : SX) (a : Int32) : SX := (xa_lineCount u, xa_functionCount u, a, xa_state u, xa_time u, xa_endingPanic u, xa_outputCount u, xa_channelCount u, xa_goroutineCount u, xa_waitsBegun u, xa_running u, xa_queueLength u, xa_kinds u, xa_argA u, xa_argB u, xa_argC u, xa_blockOf u, xa_endOf u, xa_elseOf u, xa_functionLine u, xa_surelySet u, xa_outputs u, xa_capacity u, xa_fill u, xa_closed u, xa_held u, xa_status u, xa_depth u, xa_waitOrder u, xa_waitUntil u, xa_queue u, xa_slotWish u, xa_slotLine u, xa_position u, xa_mode u, xa_panicOf u, xa_noteCount u, xa_noteFunction u, xa_noteValues u, xa_variables u)
def xs_state (u : SX) (a : Int32) : SX := (xa_lineCount u, xa_functionCount u, xa_foundLine u, a, xa_time u, xa_endingPanic u, xa_outputCount u, xa_channelCount u, xa_goroutineCount u, xa_waitsBegun u, xa_running u, xa_queueLength u, xa_kinds u, xa_argA u, xa_argB u, xa_argC u, xa_blockOf u, xa_endOf u, xa_elseOf u, xa_functionLine u, xa_surelySet u, xa_outputs u, xa_capacity u, xa_fill u, xa_closed u, xa_held u, xa_status u, xa_depth u, xa_waitOrder u, xa_waitUntil u, xa_queue u, xa_slotWish u, xa_slotLine u, xa_position u, xa_mode u, xa_panicOf u, xa_noteCount u, xa_noteFunction u, xa_noteValues u, xa_variables u)
def xs_time (u : SX) (a : Int64) : SX := (xa_lineCount u, xa_functionCount u, xa_foundLine u, xa_state u, a, xa_endingPanic u, xa_outputCount u, xa_channelCount u, xa_goroutineCount u, xa_waitsBegun u, xa_running u, xa_queueLength u, xa_kinds u, xa_argA u, xa_argB u, xa_argC u, xa_blockOf u, xa_endOf u, xa_elseOf u, xa_functionLine u, xa_surelySet u, xa_outputs u, xa_capacity u, xa_fill u, xa_closed u, xa_held u, xa_status u, xa_depth u, xa_waitOrder u, xa_waitUntil u, xa_queue u, xa_slotWish u, xa_slotLine u, xa_position u, xa_mode u, xa_panicOf u, xa_noteCount u, xa_noteFunction u, xa_noteValues u, xa_variables u)
def xs_endingPanic (u : SX) (a : Int32) : SX := (xa_lineCount u, xa_functionCount u, xa_foundLine u, xa_state u, xa_time u, a, xa_outputCount u, xa_channelCount u, xa_goroutineCount u, xa_waitsBegun u, xa_running u, xa_queueLength u, xa_kinds u, xa_argA u, xa_argB u, xa_argC u, xa_blockOf u, xa_endOf u, xa_elseOf u, xa_functionLine u, xa_surelySet u, xa_outputs u, xa_capacity u, xa_fill u, xa_closed u, xa_held u, xa_status u, xa_depth u, xa_waitOrder u, xa_waitUntil u, xa_queue u, xa_slotWish u, xa_slotLine u, xa_position u, xa_mode u, xa_panicOf u, xa_noteCount u, xa_noteFunction u, xa_noteValues u, xa_variables u)
def xs_outputCount (u : SX) (a : Int32) : SX := (xa_lineCount u, xa_functionCount u, xa_foundLine u, xa_state u, xa_time u, xa_endingPanic u, a, xa_channelCount u, xa_goroutineCount u, xa_waitsBegun u, xa_running u, xa_queueLength u, xa_kinds u, xa_argA u, xa_argB u, xa_argC u, xa_blockOf u, xa_endOf u, xa_elseOf u, xa_functionLine u, xa_surelySet u, xa_outputs u, xa_capacity u, xa_fill u, xa_closed u, xa_held u, xa_status u, xa_depth u, xa_waitOrder u, xa_waitUntil u, xa_queue u, xa_slotWish u, xa_slotLine u, xa_position u, xa_mode u, xa_panicOf u, xa_noteCount u, xa_noteFunction u, xa_noteValues u, xa_variables u)
def xs_channelCount (u : SX) (a : Int32) : SX := (xa_lineCount u, xa_functionCount u, xa_foundLine u, xa_state u, xa_time u, xa_endingPanic u, xa_outputCount u, a, xa_goroutineCount u, xa_waitsBegun u, xa_running u, xa_queueLength u, xa_kinds u, xa_argA u, xa_argB u, xa_argC u, xa_blockOf u, xa_endOf u, xa_elseOf u, xa_functionLine u, xa_surelySet u, xa_outputs u, xa_capacity u, xa_fill u, xa_closed u, xa_held u, xa_status u, xa_depth u, xa_waitOrder u, xa_waitUntil u, xa_queue u, xa_slotWish u, xa_slotLine u, xa_position u, xa_mode u, xa_panicOf u, xa_noteCount u, xa_noteFunction u, xa_noteValues u, xa_variables u)
def xs_goroutineCount (u : SX) (a : Int32) : SX := (xa_lineCount u, xa_functionCount u, xa_foundLine u, xa_state u, xa_time u, xa_endingPanic u, xa_outputCount u, xa_channelCount u, a, xa_waitsBegun u, xa_running u, xa_queueLength u, xa_kinds u, xa_argA u, xa_argB u, xa_argC u, xa_blockOf u, xa_endOf u, xa_elseOf u, xa_functionLine u, xa_surelySet u, xa_outputs u, xa_capacity u, xa_fill u, xa_closed u, xa_held u, xa_status u, xa_depth u, xa_waitOrder u, xa_waitUntil u, xa_queue u, xa_slotWish u, xa_slotLine u, xa_position u, xa_mode u, xa_panicOf u, xa_noteCount u, xa_noteFunction u, xa_noteValues u, xa_variables u)
def xs_waitsBegun (u : SX) (a : Int32) : SX := (xa_lineCount u, xa_functionCount u, xa_foundLine u, xa_state u, xa_time u, xa_endingPanic u, xa_outputCount u, xa_channelCount u, xa_goroutineCount u, a, xa_running u, xa_queueLength u, xa_kinds u, xa_argA u, xa_argB u, xa_argC u, xa_blockOf u, xa_endOf u, xa_elseOf u, xa_functionLine u, xa_surelySet u, xa_outputs u, xa_capacity u, xa_fill u, xa_closed u, xa_held u, xa_status u, xa_depth u, xa_waitOrder u, xa_waitUntil u, xa_queue u, xa_slotWish u, xa_slotLine u, xa_position u, xa_mode u, xa_panicOf u, xa_noteCount u, xa_noteFunction u, xa_noteValues u, xa_variables u)
def xs_running (u : SX) (a : Int32) : SX := (xa_lineCount u, xa_functionCount u, xa_foundLine u, xa_state u, xa_time u, xa_endingPanic u, xa_outputCount u, xa_channelCount u, xa_goroutineCount u, xa_waitsBegun u, a, xa_queueLength u, xa_kinds u, xa_argA u, xa_argB u, xa_argC u, xa_blockOf u, xa_endOf u, xa_elseOf u, xa_functionLine u, xa_surelySet u, xa_outputs u, xa_capacity u, xa_fill u, xa_closed u, xa_held u, xa_status u, xa_depth u, xa_waitOrder u, xa_waitUntil u, xa_queue u, xa_slotWish u, xa_slotLine u, xa_position u, xa_mode u, xa_panicOf u, xa_noteCount u, xa_noteFunction u, xa_noteValues u, xa_variables u)
def xs_queueLength (u : SX) (a : Int32) : SX := (xa_lineCount u, xa_functionCount u, xa_foundLine u, xa_state u, xa_time u, xa_endingPanic u, xa_outputCount u, xa_channelCount u, xa_goroutineCount u, xa_waitsBegun u, xa_running u, a, xa_kinds u, xa_argA u, xa_argB u, xa_argC u, xa_blockOf u, xa_endOf u, xa_elseOf u, xa_functionLine u, xa_surelySet u, xa_outputs u, xa_capacity u, xa_fill u, xa_closed u, xa_held u, xa_status u, xa_depth u, xa_waitOrder u, xa_waitUntil u, xa_queue u, xa_slotWish u, xa_slotLine u, xa_position u, xa_mode u, xa_panicOf u, xa_noteCount u, xa_noteFunction u, xa_noteValues u, xa_variables u)
def xs_kinds (u : SX) (a : Nat → Int32) : SX := (xa_lineCount u, xa_functionCount u, xa_foundLine u, xa_state u, xa_time u, xa_endingPanic u, xa_outputCount u, xa_channelCount u, xa_goroutineCount u, xa_waitsBegun u, xa_running u, xa_queueLength u, a, xa_argA u, xa_argB u, xa_argC u, xa_blockOf u, xa_endOf u, xa_elseOf u, xa_functionLine u, xa_surelySet u, xa_outputs u, xa_capacity u, xa_fill u, xa_closed u, xa_held u, xa_status u, xa_depth u, xa_waitOrder u, xa_waitUntil u, xa_queue u, xa_slotWish u, xa_slotLine u, xa_position u, xa_mode u, xa_panicOf u, xa_noteCount u, xa_noteFunction u, xa_noteValues u, xa_variables u)
def xs_argA (u : SX) (a : Nat → Int32) : SX := (xa_lineCount u, xa_functionCount u, xa_foundLine u, xa_state u, xa_time u, xa_endingPanic u, xa_outputCount u, xa_channelCount u, xa_goroutineCount u, xa_waitsBegun u, xa_running u, xa_queueLength u, xa_kinds u, a, xa_argB u, xa_argC u, xa_blockOf u, xa_endOf u, xa_elseOf u, xa_functionLine u, xa_surelySet u, xa_outputs u, xa_capacity u, xa_fill u, xa_closed u, xa_held u, xa_status u, xa_depth u, xa_waitOrder u, xa_waitUntil u, xa_queue u, xa_slotWish u, xa_slotLine u, xa_position u, xa_mode u, xa_panicOf u, xa_noteCount u, xa_noteFunction u, xa_noteValues u, xa_variables u)
def xs_argB (u : SX) (a : Nat → Int32) : SX := (xa_lineCount u, xa_functionCount u, xa_foundLine u, xa_state u, xa_time u, xa_endingPanic u, xa_outputCount u, xa_channelCount u, xa_goroutineCount u, xa_waitsBegun u, xa_running u, xa_queueLength u, xa_kinds u, xa_argA u, a, xa_argC u, xa_blockOf u, xa_endOf u, xa_elseOf u, xa_functionLine u, xa_surelySet u, xa_outputs u, xa_capacity u, xa_fill u, xa_closed u, xa_held u, xa_status u, xa_depth u, xa_waitOrder u, xa_waitUntil u, xa_queue u, xa_slotWish u, xa_slotLine u, xa_position u, xa_mode u, xa_panicOf u, xa_noteCount u, xa_noteFunction u, xa_noteValues u, xa_variables u)
def xs_argC (u : SX) (a : Nat → Int32) : SX := (xa_lineCount u, xa_functionCount u, xa_foundLine u, xa_state u, xa_time u, xa_endingPanic u, xa_outputCount u, xa_channelCount u, xa_goroutineCount u, xa_waitsBegun u, xa_running u, xa_queueLength u, xa_kinds u, xa_argA u, xa_argB u, a, xa_blockOf u, xa_endOf u, xa_elseOf u, xa_functionLine u, xa_surelySet u, xa_outputs u, xa_capacity u, xa_fill u, xa_closed u, xa_held u, xa_status u, xa_depth u, xa_waitOrder u, xa_waitUntil u, xa_queue u, xa_slotWish u, xa_slotLine u, xa_position u, xa_mode u, xa_panicOf u, xa_noteCount u, xa_noteFunction u, xa_noteValues u, xa_variables u)
def xs_blockOf (u : SX) (a : Nat → Int32) : SX := (xa_lineCount u, xa_functionCount u, xa_foundLine u, xa_state u, xa_time u, xa_endingPanic u, xa_outputCount u, xa_channelCount u, xa_goroutineCount u, xa_waitsBegun u, xa_running u, xa_queueLength u, xa_kinds u, xa_argA u, xa_argB u, xa_argC u, a, xa_endOf u, xa_elseOf u, xa_functionLine u, xa_surelySet u, xa_outputs u, xa_capacity u, xa_fill u, xa_closed u, xa_held u, xa_status u, xa_depth u, xa_waitOrder u, xa_waitUntil u, xa_queue u, xa_slotWish u, xa_slotLine u, xa_position u, xa_mode u, xa_panicOf u, xa_noteCount u, xa_noteFunction u, xa_noteValues u, xa_variables u)
def xs_endOf (u : SX) (a : Nat → Int32) : SX := (xa_lineCount u, xa_functionCount u, xa_foundLine u, xa_state u, xa_time u, xa_endingPanic u, xa_outputCount u, xa_channelCount u, xa_goroutineCount u, xa_waitsBegun u, xa_running u, xa_queueLength u, xa_kinds u, xa_argA u, xa_argB u, xa_argC u, xa_blockOf u, a, xa_elseOf u, xa_functionLine u, xa_surelySet u, xa_outputs u, xa_capacity u, xa_fill u, xa_closed u, xa_held u, xa_status u, xa_depth u, xa_waitOrder u, xa_waitUntil u, xa_queue u, xa_slotWish u, xa_slotLine u, xa_position u, xa_mode u, xa_panicOf u, xa_noteCount u, xa_noteFunction u, xa_noteValues u, xa_variables u)
def xs_elseOf (u : SX) (a : Nat → Int32) : SX := (xa_lineCount u, xa_functionCount u, xa_foundLine u, xa_state u, xa_time u, xa_endingPanic u, xa_outputCount u, xa_channelCount u, xa_goroutineCount u, xa_waitsBegun u, xa_running u, xa_queueLength u, xa_kinds u, xa_argA u, xa_argB u, xa_argC u, xa_blockOf u, xa_endOf u, a, xa_functionLine u, xa_surelySet u, xa_outputs u, xa_capacity u, xa_fill u, xa_closed u, xa_held u, xa_status u, xa_depth u, xa_waitOrder u, xa_waitUntil u, xa_queue u, xa_slotWish u, xa_slotLine u, xa_position u, xa_mode u, xa_panicOf u, xa_noteCount u, xa_noteFunction u, xa_noteValues u, xa_variables u)
def xs_functionLine (u : SX) (a : Nat → Int32) : SX := (xa_lineCount u, xa_functionCount u, xa_foundLine u, xa_state u, xa_time u, xa_endingPanic u, xa_outputCount u, xa_channelCount u, xa_goroutineCount u, xa_waitsBegun u, xa_running u, xa_queueLength u, xa_kinds u, xa_argA u, xa_argB u, xa_argC u, xa_blockOf u, xa_endOf u, xa_elseOf u, a, xa_surelySet u, xa_outputs u, xa_capacity u, xa_fill u, xa_closed u, xa_held u, xa_status u, xa_depth u, xa_waitOrder u, xa_waitUntil u, xa_queue u, xa_slotWish u, xa_slotLine u, xa_position u, xa_mode u, xa_panicOf u, xa_noteCount u, xa_noteFunction u, xa_noteValues u, xa_variables u)
def xs_surelySet (u : SX) (a : Nat → Int32) : SX := (xa_lineCount u, xa_functionCount u, xa_foundLine u, xa_state u, xa_time u, xa_endingPanic u, xa_outputCount u, xa_channelCount u, xa_goroutineCount u, xa_waitsBegun u, xa_running u, xa_queueLength u, xa_kinds u, xa_argA u, xa_argB u, xa_argC u, xa_blockOf u, xa_endOf u, xa_elseOf u, xa_functionLine u, a, xa_outputs u, xa_capacity u, xa_fill u, xa_closed u, xa_held u, xa_status u, xa_depth u, xa_waitOrder u, xa_waitUntil u, xa_queue u, xa_slotWish u, xa_slotLine u, xa_position u, xa_mode u, xa_panicOf u, xa_noteCount u, xa_noteFunction u, xa_noteValues u, xa_variables u)
def xs_outputs (u : SX) (a : Nat → Int32) : SX := (xa_lineCount u, xa_functionCount u, xa_foundLine u, xa_state u, xa_time u, xa_endingPanic u, xa_outputCount u, xa_channelCount u, xa_goroutineCount u, xa_waitsBegun u, xa_running u, xa_queueLength u, xa_kinds u, xa_argA u, xa_argB u, xa_argC u, xa_blockOf u, xa_endOf u, xa_elseOf u, xa_functionLine u, xa_surelySet u, a, xa_capacity u, xa_fill u, xa_closed u, xa_held u, xa_status u, xa_depth u, xa_waitOrder u, xa_waitUntil u, xa_queue u, xa_slotWish u, xa_slotLine u, xa_position u, xa_mode u, xa_panicOf u, xa_noteCount u, xa_noteFunction u, xa_noteValues u, xa_variables u)
def xs_capacity (u : SX) (a : Nat → Int32) : SX := (xa_lineCount u, xa_functionCount u, xa_foundLine u, xa_state u, xa_time u, xa_endingPanic u, xa_outputCount u, xa_channelCount u, xa_goroutineCount u, xa_waitsBegun u, xa_running u, xa_queueLength u, xa_kinds u, xa_argA u, xa_argB u, xa_argC u, xa_blockOf u, xa_endOf u, xa_elseOf u, xa_functionLine u, xa_surelySet u, xa_outputs u, a, xa_fill u, xa_closed u, xa_held u, xa_status u, xa_depth u, xa_waitOrder u, xa_waitUntil u, xa_queue u, xa_slotWish u, xa_slotLine u, xa_position u, xa_mode u, xa_panicOf u, xa_noteCount u, xa_noteFunction u, xa_noteValues u, xa_variables u)
def xs_fill (u : SX) (a : Nat → Int32) : SX := (xa_lineCount u, xa_functionCount u, xa_foundLine u, xa_state u, xa_time u, xa_endingPanic u, xa_outputCount u, xa_channelCount u, xa_goroutineCount u, xa_waitsBegun u, xa_running u, xa_queueLength u, xa_kinds u, xa_argA u, xa_argB u, xa_argC u, xa_blockOf u, xa_endOf u, xa_elseOf u, xa_functionLine u, xa_surelySet u, xa_outputs u, xa_capacity u, a, xa_closed u, xa_held u, xa_status u, xa_depth u, xa_waitOrder u, xa_waitUntil u, xa_queue u, xa_slotWish u, xa_slotLine u, xa_position u, xa_mode u, xa_panicOf u, xa_noteCount u, xa_noteFunction u, xa_noteValues u, xa_variables u)
def xs_closed (u : SX) (a : Nat → Int32) : SX := (xa_lineCount u, xa_functionCount u, xa_foundLine u, xa_state u, xa_time u, xa_endingPanic u, xa_outputCount u, xa_channelCount u, xa_goroutineCount u, xa_waitsBegun u, xa_running u, xa_queueLength u, xa_kinds u, xa_argA u, xa_argB u, xa_argC u, xa_blockOf u, xa_endOf u, xa_elseOf u, xa_functionLine u, xa_surelySet u, xa_outputs u, xa_capacity u, xa_fill u, a, xa_held u, xa_status u, xa_depth u, xa_waitOrder u, xa_waitUntil u, xa_queue u, xa_slotWish u, xa_slotLine u, xa_position u, xa_mode u, xa_panicOf u, xa_noteCount u, xa_noteFunction u, xa_noteValues u, xa_variables u)
def xs_held (u : SX) (a : Nat → Int32) : SX := (xa_lineCount u, xa_functionCount u, xa_foundLine u, xa_state u, xa_time u, xa_endingPanic u, xa_outputCount u, xa_channelCount u, xa_goroutineCount u, xa_waitsBegun u, xa_running u, xa_queueLength u, xa_kinds u, xa_argA u, xa_argB u, xa_argC u, xa_blockOf u, xa_endOf u, xa_elseOf u, xa_functionLine u, xa_surelySet u, xa_outputs u, xa_capacity u, xa_fill u, xa_closed u, a, xa_status u, xa_depth u, xa_waitOrder u, xa_waitUntil u, xa_queue u, xa_slotWish u, xa_slotLine u, xa_position u, xa_mode u, xa_panicOf u, xa_noteCount u, xa_noteFunction u, xa_noteValues u, xa_variables u)
def xs_status (u : SX) (a : Nat → Int32) : SX := (xa_lineCount u, xa_functionCount u, xa_foundLine u, xa_state u, xa_time u, xa_endingPanic u, xa_outputCount u, xa_channelCount u, xa_goroutineCount u, xa_waitsBegun u, xa_running u, xa_queueLength u, xa_kinds u, xa_argA u, xa_argB u, xa_argC u, xa_blockOf u, xa_endOf u, xa_elseOf u, xa_functionLine u, xa_surelySet u, xa_outputs u, xa_capacity u, xa_fill u, xa_closed u, xa_held u, a, xa_depth u, xa_waitOrder u, xa_waitUntil u, xa_queue u, xa_slotWish u, xa_slotLine u, xa_position u, xa_mode u, xa_panicOf u, xa_noteCount u, xa_noteFunction u, xa_noteValues u, xa_variables u)
def xs_depth (u : SX) (a : Nat → Int32) : SX := (xa_lineCount u, xa_functionCount u, xa_foundLine u, xa_state u, xa_time u, xa_endingPanic u, xa_outputCount u, xa_channelCount u, xa_goroutineCount u, xa_waitsBegun u, xa_running u, xa_queueLength u, xa_kinds u, xa_argA u, xa_argB u, xa_argC u, xa_blockOf u, xa_endOf u, xa_elseOf u, xa_functionLine u, xa_surelySet u, xa_outputs u, xa_capacity u, xa_fill u, xa_closed u, xa_held u, xa_status u, a, xa_waitOrder u, xa_waitUntil u, xa_queue u, xa_slotWish u, xa_slotLine u, xa_position u, xa_mode u, xa_panicOf u, xa_noteCount u, xa_noteFunction u, xa_noteValues u, xa_variables u)
def xs_waitOrder (u : SX) (a : Nat → Int32) : SX := (xa_lineCount u, xa_functionCount u, xa_foundLine u, xa_state u, xa_time u, xa_endingPanic u, xa_outputCount u, xa_channelCount u, xa_goroutineCount u, xa_waitsBegun u, xa_running u, xa_queueLength u, xa_kinds u, xa_argA u, xa_argB u, xa_argC u, xa_blockOf u, xa_endOf u, xa_elseOf u, xa_functionLine u, xa_surelySet u, xa_outputs u, xa_capacity u, xa_fill u, xa_closed u, xa_held u, xa_status u, xa_depth u, a, xa_waitUntil u, xa_queue u, xa_slotWish u, xa_slotLine u, xa_position u, xa_mode u, xa_panicOf u, xa_noteCount u, xa_noteFunction u, xa_noteValues u, xa_variables u)
def xs_waitUntil (u : SX) (a : Nat → Int64) : SX := (xa_lineCount u, xa_functionCount u, xa_foundLine u, xa_state u, xa_time u, xa_endingPanic u, xa_outputCount u, xa_channelCount u, xa_goroutineCount u, xa_waitsBegun u, xa_running u, xa_queueLength u, xa_kinds u, xa_argA u, xa_argB u, xa_argC u, xa_blockOf u, xa_endOf u, xa_elseOf u, xa_functionLine u, xa_surelySet u, xa_outputs u, xa_capacity u, xa_fill u, xa_closed u, xa_held u, xa_status u, xa_depth u, xa_waitOrder u, a, xa_queue u, xa_slotWish u, xa_slotLine u, xa_position u, xa_mode u, xa_panicOf u, xa_noteCount u, xa_noteFunction u, xa_noteValues u, xa_variables u)
def xs_queue (u : SX) (a : Nat → Int32) : SX := (xa_lineCount u, xa_functionCount u, xa_foundLine u, xa_state u, xa_time u, xa_endingPanic u, xa_outputCount u, xa_channelCount u, xa_goroutineCount u, xa_waitsBegun u, xa_running u, xa_queueLength u, xa_kinds u, xa_argA u, xa_argB u, xa_argC u, xa_blockOf u, xa_endOf u, xa_elseOf u, xa_functionLine u, xa_surelySet u, xa_outputs u, xa_capacity u, xa_fill u, xa_closed u, xa_held u, xa_status u, xa_depth u, xa_waitOrder u, xa_waitUntil u, a, xa_slotWish u, xa_slotLine u, xa_position u, xa_mode u, xa_panicOf u, xa_noteCount u, xa_noteFunction u, xa_noteValues u, xa_variables u)
def xs_slotWish (u : SX) (a : Nat → Int32) : SX := (xa_lineCount u, xa_functionCount u, xa_foundLine u, xa_state u, xa_time u, xa_endingPanic u, xa_outputCount u, xa_channelCount u, xa_goroutineCount u, xa_waitsBegun u, xa_running u, xa_queueLength u, xa_kinds u, xa_argA u, xa_argB u, xa_argC u, xa_blockOf u, xa_endOf u, xa_elseOf u, xa_functionLine u, xa_surelySet u, xa_outputs u, xa_capacity u, xa_fill u, xa_closed u, xa_held u, xa_status u, xa_depth u, xa_waitOrder u, xa_waitUntil u, xa_queue u, a, xa_slotLine u, xa_position u, xa_mode u, xa_panicOf u, xa_noteCount u, xa_noteFunction u, xa_noteValues u, xa_variables u)
def xs_slotLine (u : SX) (a : Nat → Int32) : SX := (xa_lineCount u, xa_functionCount u, xa_foundLine u, xa_state u, xa_time u, xa_endingPanic u, xa_outputCount u, xa_channelCount u, xa_goroutineCount u, xa_waitsBegun u, xa_running u, xa_queueLength u, xa_kinds u, xa_argA u, xa_argB u, xa_argC u, xa_blockOf u, xa_endOf u, xa_elseOf u, xa_functionLine u, xa_surelySet u, xa_outputs u, xa_capacity u, xa_fill u, xa_closed u, xa_held u, xa_status u, xa_depth u, xa_waitOrder u, xa_waitUntil u, xa_queue u, xa_slotWish u, a, xa_position u, xa_mode u, xa_panicOf u, xa_noteCount u, xa_noteFunction u, xa_noteValues u, xa_variables u)
def xs_position (u : SX) (a : Nat → Int32) : SX := (xa_lineCount u, xa_functionCount u, xa_foundLine u, xa_state u, xa_time u, xa_endingPanic u, xa_outputCount u, xa_channelCount u, xa_goroutineCount u, xa_waitsBegun u, xa_running u, xa_queueLength u, xa_kinds u, xa_argA u, xa_argB u, xa_argC u, xa_blockOf u, xa_endOf u, xa_elseOf u, xa_functionLine u, xa_surelySet u, xa_outputs u, xa_capacity u, xa_fill u, xa_closed u, xa_held u, xa_status u, xa_depth u, xa_waitOrder u, xa_waitUntil u, xa_queue u, xa_slotWish u, xa_slotLine u, a, xa_mode u, xa_panicOf u, xa_noteCount u, xa_noteFunction u, xa_noteValues u, xa_variables u)
def xs_mode (u : SX) (a : Nat → Int32) : SX := (xa_lineCount u, xa_functionCount u, xa_foundLine u, xa_state u, xa_time u, xa_endingPanic u, xa_outputCount u, xa_channelCount u, xa_goroutineCount u, xa_waitsBegun u, xa_running u, xa_queueLength u, xa_kinds u, xa_argA u, xa_argB u, xa_argC u, xa_blockOf u, xa_endOf u, xa_elseOf u, xa_functionLine u, xa_surelySet u, xa_outputs u, xa_capacity u, xa_fill u, xa_closed u, xa_held u, xa_status u, xa_depth u, xa_waitOrder u, xa_waitUntil u, xa_queue u, xa_slotWish u, xa_slotLine u, xa_position u, a, xa_panicOf u, xa_noteCount u, xa_noteFunction u, xa_noteValues u, xa_variables u)
def xs_panicOf (u : SX) (a : Nat → Int32) : SX := (xa_lineCount u, xa_functionCount u, xa_foundLine u, xa_state u, xa_time u, xa_endingPanic u, xa_outputCount u, xa_channelCount u, xa_goroutineCount u, xa_waitsBegun u, xa_running u, xa_queueLength u, xa_kinds u, xa_argA u, xa_argB u, xa_argC u, xa_blockOf u, xa_endOf u, xa_elseOf u, xa_functionLine u, xa_surelySet u, xa_outputs u, xa_capacity u, xa_fill u, xa_closed u, xa_held u, xa_status u, xa_depth u, xa_waitOrder u, xa_waitUntil u, xa_queue u, xa_slotWish u, xa_slotLine u, xa_position u, xa_mode u, a, xa_noteCount u, xa_noteFunction u, xa_noteValues u, xa_variables u)
def xs_noteCount (u : SX) (a : Nat → Int32) : SX := (xa_lineCount u, xa_functionCount u, xa_foundLine u, xa_state u, xa_time u, xa_endingPanic u, xa_outputCount u, xa_channelCount u, xa_goroutineCount u, xa_waitsBegun u, xa_running u, xa_queueLength u, xa_kinds u, xa_argA u, xa_argB u, xa_argC u, xa_blockOf u, xa_endOf u, xa_elseOf u, xa_functionLine u, xa_surelySet u, xa_outputs u, xa_capacity u, xa_fill u, xa_closed u, xa_held u, xa_status u, xa_depth u, xa_waitOrder u, xa_waitUntil u, xa_queue u, xa_slotWish u, xa_slotLine u, xa_position u, xa_mode u, xa_panicOf u, a, xa_noteFunction u, xa_noteValues u, xa_variables u)
def xs_noteFunction (u : SX) (a : Nat → Int32) : SX := (xa_lineCount u, xa_functionCount u, xa_foundLine u, xa_state u, xa_time u, xa_endingPanic u, xa_outputCount u, xa_channelCount u, xa_goroutineCount u, xa_waitsBegun u, xa_running u, xa_queueLength u, xa_kinds u, xa_argA u, xa_argB u, xa_argC u, xa_blockOf u, xa_endOf u, xa_elseOf u, xa_functionLine u, xa_surelySet u, xa_outputs u, xa_capacity u, xa_fill u, xa_closed u, xa_held u, xa_status u, xa_depth u, xa_waitOrder u, xa_waitUntil u, xa_queue u, xa_slotWish u, xa_slotLine u, xa_position u, xa_mode u, xa_panicOf u, xa_noteCount u, a, xa_noteValues u, xa_variables u)
def xs_noteValues (u : SX) (a : Nat → Int32) : SX := (xa_lineCount u, xa_functionCount u, xa_foundLine u, xa_state u, xa_time u, xa_endingPanic u, xa_outputCount u, xa_channelCount u, xa_goroutineCount u, xa_waitsBegun u, xa_running u, xa_queueLength u, xa_kinds u, xa_argA u, xa_argB u, xa_argC u, xa_blockOf u, xa_endOf u, xa_elseOf u, xa_functionLine u, xa_surelySet u, xa_outputs u, xa_capacity u, xa_fill u, xa_closed u, xa_held u, xa_status u, xa_depth u, xa_waitOrder u, xa_waitUntil u, xa_queue u, xa_slotWish u, xa_slotLine u, xa_position u, xa_mode u, xa_panicOf u, xa_noteCount u, xa_noteFunction u, a, xa_variables u)
def xs_variables (u : SX) (a : Nat → Int32) : SX := (xa_lineCount u, xa_functionCount u, xa_foundLine u, xa_state u, xa_time u, xa_endingPanic u, xa_outputCount u, xa_channelCount u, xa_goroutineCount u, xa_waitsBegun u, xa_running u, xa_queueLength u, xa_kinds u, xa_argA u, xa_argB u, xa_argC u, xa_blockOf u, xa_endOf u, xa_elseOf u, xa_functionLine u, xa_surelySet u, xa_outputs u, xa_capacity u, xa_fill u, xa_closed u, xa_held u, xa_status u, xa_depth u, xa_waitOrder u, xa_waitUntil u, xa_queue u, xa_slotWish u, xa_slotLine u, xa_position u, xa_mode u, xa_panicOf u, xa_noteCount u, xa_noteFunction u, xa_noteValues u, a)
def ya_lines (u : SY) : Int32 := match u with | (a, _, _, _, _, _, _, _, _, _, _, _, _, _, _, _, _, _, _, _, _, _, _, _, _, _, _, _, _, _, _, _, _, _, _, _, _, _, _, _, _) => a
def ya_bad (u : SY) : Int32 := match u with | (_, a, _, _, _, _, _, _, _, _, _, _, _, _, _, _, _, _, _, _, _, _, _, _, _, _, _, _, _, _, _, _, _, _, _, _, _, _, _, _, _) => a
def ya_state (u : SY) : Int32 := match u with | (_, _, a, _, _, _, _, _, _, _, _, _, _, _, _, _, _, _, _, _, _, _, _, _, _, _, _, _, _, _, _, _, _, _, _, _, _, _, _, _, _) => a
def ya_queued (u : SY) : Int32 := match u with | (_, _, _, a, _, _, _, _, _, _, _, _, _, _, _, _, _, _, _, _, _, _, _, _, _, _, _, _, _, _, _, _, _, _, _, _, _, _, _, _, _) => a
def ya_started (u : SY) : Int32 := match u with | (_, _, _, _, a, _, _, _, _, _, _, _, _, _, _, _, _, _, _, _, _, _, _, _, _, _, _, _, _, _, _, _, _, _, _, _, _, _, _, _, _) => a
def ya_now (u : SY) : Int32 := match u with | (_, _, _, _, _, a, _, _, _, _, _, _, _, _, _, _, _, _, _, _, _, _, _, _, _, _, _, _, _, _, _, _, _, _, _, _, _, _, _, _, _) => a
def ya_clock (u : SY) : Int64 := match u with | (_, _, _, _, _, _, a, _, _, _, _, _, _, _, _, _, _, _, _, _, _, _, _, _, _, _, _, _, _, _, _, _, _, _, _, _, _, _, _, _, _) => a
def ya_turn (u : SY) : Int32 := match u with | (_, _, _, _, _, _, _, a, _, _, _, _, _, _, _, _, _, _, _, _, _, _, _, _, _, _, _, _, _, _, _, _, _, _, _, _, _, _, _, _, _) => a
def ya_off (u : SY) : Int32 := match u with | (_, _, _, _, _, _, _, _, a, _, _, _, _, _, _, _, _, _, _, _, _, _, _, _, _, _, _, _, _, _, _, _, _, _, _, _, _, _, _, _, _) => a
def ya_made (u : SY) : Int32 := match u with | (_, _, _, _, _, _, _, _, _, a, _, _, _, _, _, _, _, _, _, _, _, _, _, _, _, _, _, _, _, _, _, _, _, _, _, _, _, _, _, _, _) => a
def ya_printed (u : SY) : Int32 := match u with | (_, _, _, _, _, _, _, _, _, _, a, _, _, _, _, _, _, _, _, _, _, _, _, _, _, _, _, _, _, _, _, _, _, _, _, _, _, _, _, _, _) => a
def ya_panicValue (u : SY) : Int32 := match u with | (_, _, _, _, _, _, _, _, _, _, _, a, _, _, _, _, _, _, _, _, _, _, _, _, _, _, _, _, _, _, _, _, _, _, _, _, _, _, _, _, _) => a
def ya_kind (u : SY) : Nat → Int32 := match u with | (_, _, _, _, _, _, _, _, _, _, _, _, a, _, _, _, _, _, _, _, _, _, _, _, _, _, _, _, _, _, _, _, _, _, _, _, _, _, _, _, _) => a
def ya_opA (u : SY) : Nat → Int32 := match u with | (_, _, _, _, _, _, _, _, _, _, _, _, _, a, _, _, _, _, _, _, _, _, _, _, _, _, _, _, _, _, _, _, _, _, _, _, _, _, _, _, _) => a
def ya_opB (u : SY) : Nat → Int32 := match u with | (_, _, _, _, _, _, _, _, _, _, _, _, _, _, a, _, _, _, _, _, _, _, _, _, _, _, _, _, _, _, _, _, _, _, _, _, _, _, _, _, _) => a
def ya_opC (u : SY) : Nat → Int32 := match u with | (_, _, _, _, _, _, _, _, _, _, _, _, _, _, _, a, _, _, _, _, _, _, _, _, _, _, _, _, _, _, _, _, _, _, _, _, _, _, _, _, _) => a
def ya_open (u : SY) : Nat → Int32 := match u with | (_, _, _, _, _, _, _, _, _, _, _, _, _, _, _, _, a, _, _, _, _, _, _, _, _, _, _, _, _, _, _, _, _, _, _, _, _, _, _, _, _) => a
def ya_seen (u : SY) : Nat → Int32 := match u with | (_, _, _, _, _, _, _, _, _, _, _, _, _, _, _, _, _, a, _, _, _, _, _, _, _, _, _, _, _, _, _, _, _, _, _, _, _, _, _, _, _) => a
def ya_unset (u : SY) : Nat → Int32 := match u with | (_, _, _, _, _, _, _, _, _, _, _, _, _, _, _, _, _, _, a, _, _, _, _, _, _, _, _, _, _, _, _, _, _, _, _, _, _, _, _, _, _) => a
def ya_status (u : SY) : Nat → Int32 := match u with | (_, _, _, _, _, _, _, _, _, _, _, _, _, _, _, _, _, _, _, a, _, _, _, _, _, _, _, _, _, _, _, _, _, _, _, _, _, _, _, _, _) => a
def ya_depth (u : SY) : Nat → Int32 := match u with | (_, _, _, _, _, _, _, _, _, _, _, _, _, _, _, _, _, _, _, _, a, _, _, _, _, _, _, _, _, _, _, _, _, _, _, _, _, _, _, _, _) => a
def ya_since (u : SY) : Nat → Int32 := match u with | (_, _, _, _, _, _, _, _, _, _, _, _, _, _, _, _, _, _, _, _, _, a, _, _, _, _, _, _, _, _, _, _, _, _, _, _, _, _, _, _, _) => a
def ya_resume (u : SY) : Nat → Int32 := match u with | (_, _, _, _, _, _, _, _, _, _, _, _, _, _, _, _, _, _, _, _, _, _, a, _, _, _, _, _, _, _, _, _, _, _, _, _, _, _, _, _, _) => a
def ya_shocked (u : SY) : Nat → Int32 := match u with | (_, _, _, _, _, _, _, _, _, _, _, _, _, _, _, _, _, _, _, _, _, _, _, a, _, _, _, _, _, _, _, _, _, _, _, _, _, _, _, _, _) => a
def ya_queue (u : SY) : Nat → Int32 := match u with | (_, _, _, _, _, _, _, _, _, _, _, _, _, _, _, _, _, _, _, _, _, _, _, _, a, _, _, _, _, _, _, _, _, _, _, _, _, _, _, _, _) => a
def ya_until (u : SY) : Nat → Int64 := match u with | (_, _, _, _, _, _, _, _, _, _, _, _, _, _, _, _, _, _, _, _, _, _, _, _, _, a, _, _, _, _, _, _, _, _, _, _, _, _, _, _, _) => a
def ya_channels (u : SY) : Nat → Int32 := match u with | (_, _, _, _, _, _, _, _, _, _, _, _, _, _, _, _, _, _, _, _, _, _, _, _, _, _, a, _, _, _, _, _, _, _, _, _, _, _, _, _, _) => a
def ya_pc (u : SY) : Nat → Int32 := match u with | (_, _, _, _, _, _, _, _, _, _, _, _, _, _, _, _, _, _, _, _, _, _, _, _, _, _, _, a, _, _, _, _, _, _, _, _, _, _, _, _, _) => a
def ya_vars (u : SY) : Nat → Int32 := match u with | (_, _, _, _, _, _, _, _, _, _, _, _, _, _, _, _, _, _, _, _, _, _, _, _, _, _, _, _, a, _, _, _, _, _, _, _, _, _, _, _, _) => a
def ya_noted (u : SY) : Nat → Int32 := match u with | (_, _, _, _, _, _, _, _, _, _, _, _, _, _, _, _, _, _, _, _, _, _, _, _, _, _, _, _, _, a, _, _, _, _, _, _, _, _, _, _, _) => a
def ya_noteOf (u : SY) : Nat → Int32 := match u with | (_, _, _, _, _, _, _, _, _, _, _, _, _, _, _, _, _, _, _, _, _, _, _, _, _, _, _, _, _, _, a, _, _, _, _, _, _, _, _, _, _) => a
def ya_noteB (u : SY) : Nat → Int32 := match u with | (_, _, _, _, _, _, _, _, _, _, _, _, _, _, _, _, _, _, _, _, _, _, _, _, _, _, _, _, _, _, _, a, _, _, _, _, _, _, _, _, _) => a
def ya_noteC (u : SY) : Nat → Int32 := match u with | (_, _, _, _, _, _, _, _, _, _, _, _, _, _, _, _, _, _, _, _, _, _, _, _, _, _, _, _, _, _, _, _, a, _, _, _, _, _, _, _, _) => a
def ya_asNote (u : SY) : Nat → Int32 := match u with | (_, _, _, _, _, _, _, _, _, _, _, _, _, _, _, _, _, _, _, _, _, _, _, _, _, _, _, _, _, _, _, _, _, a, _, _, _, _, _, _, _) => a
def ya_panics (u : SY) : Nat → Int32 := match u with | (_, _, _, _, _, _, _, _, _, _, _, _, _, _, _, _, _, _, _, _, _, _, _, _, _, _, _, _, _, _, _, _, _, _, a, _, _, _, _, _, _) => a
def ya_panicWith (u : SY) : Nat → Int32 := match u with | (_, _, _, _, _, _, _, _, _, _, _, _, _, _, _, _, _, _, _, _, _, _, _, _, _, _, _, _, _, _, _, _, _, _, _, a, _, _, _, _, _) => a
def ya_capacity (u : SY) : Nat → Int32 := match u with | (_, _, _, _, _, _, _, _, _, _, _, _, _, _, _, _, _, _, _, _, _, _, _, _, _, _, _, _, _, _, _, _, _, _, _, _, a, _, _, _, _) => a
def ya_held (u : SY) : Nat → Int32 := match u with | (_, _, _, _, _, _, _, _, _, _, _, _, _, _, _, _, _, _, _, _, _, _, _, _, _, _, _, _, _, _, _, _, _, _, _, _, _, a, _, _, _) => a
def ya_closed (u : SY) : Nat → Int32 := match u with | (_, _, _, _, _, _, _, _, _, _, _, _, _, _, _, _, _, _, _, _, _, _, _, _, _, _, _, _, _, _, _, _, _, _, _, _, _, _, a, _, _) => a
def ya_values (u : SY) : Nat → Int32 := match u with | (_, _, _, _, _, _, _, _, _, _, _, _, _, _, _, _, _, _, _, _, _, _, _, _, _, _, _, _, _, _, _, _, _, _, _, _, _, _, _, a, _) => a
def ya_out (u : SY) : Nat → Int32 := match u with | (_, _, _, _, _, _, _, _, _, _, _, _, _, _, _, _, _, _, _, _, _, _, _, _, _, _, _, _, _, _, _, _, _, _, _, _, _, _, _, _, a) => a
def ys_lines (u : SY) (a : Int32) : SY := (a, ya_bad u, ya_state u, ya_queued u, ya_started u, ya_now u, ya_clock u, ya_turn u, ya_off u, ya_made u, ya_printed u, ya_panicValue u, ya_kind u, ya_opA u, ya_opB u, ya_opC u, ya_open u, ya_seen u, ya_unset u, ya_status u, ya_depth u, ya_since u, ya_resume u, ya_shocked u, ya_queue u, ya_until u, ya_channels u, ya_pc u, ya_vars u, ya_noted u, ya_noteOf u, ya_noteB u, ya_noteC u, ya_asNote u, ya_panics u, ya_panicWith u, ya_capacity u, ya_held u, ya_closed u, ya_values u, ya_out u)
def ys_bad (u : SY) (a : Int32) : SY := (ya_lines u, a, ya_state u, ya_queued u, ya_started u, ya_now u, ya_clock u, ya_turn u, ya_off u, ya_made u, ya_printed u, ya_panicValue u, ya_kind u, ya_opA u, ya_opB u, ya_opC u, ya_open u, ya_seen u, ya_unset u, ya_status u, ya_depth u, ya_since u, ya_resume u, ya_shocked u, ya_queue u, ya_until u, ya_channels u, ya_pc u, ya_vars u, ya_noted u, ya_noteOf u, ya_noteB u, ya_noteC u, ya_asNote u, ya_panics u, ya_panicWith u, ya_capacity u, ya_held u, ya_closed u, ya_values u, ya_out u)
def ys_state (u : SY) (a : Int32) : SY := (ya_lines u, ya_bad u, a, ya_queued u, ya_started u, ya_now u, ya_clock u, ya_turn u, ya_off u, ya_made u, ya_printed u, ya_panicValue u, ya_kind u, ya_opA u, ya_opB u, ya_opC u, ya_open u, ya_seen u, ya_unset u, ya_status u, ya_depth u, ya_since u, ya_resume u, ya_shocked u, ya_queue u, ya_until u, ya_channels u, ya_pc u, ya_vars u, ya_noted u, ya_noteOf u, ya_noteB u, ya_noteC u, ya_asNote u, ya_panics u, ya_panicWith u, ya_capacity u, ya_held u, ya_closed u, ya_values u, ya_out u)
def ys_queued (u : SY) (a : Int32) : SY := (ya_lines u, ya_bad u, ya_state u, a, ya_started u, ya_now u, ya_clock u, ya_turn u, ya_off u, ya_made u, ya_printed u, ya_panicValue u, ya_kind u, ya_opA u, ya_opB u, ya_opC u, ya_open u, ya_seen u, ya_unset u, ya_status u, ya_depth u, ya_since u, ya_resume u, ya_shocked u, ya_queue u, ya_until u, ya_channels u, ya_pc u, ya_vars u, ya_noted u, ya_noteOf u, ya_noteB u, ya_noteC u, ya_asNote u, ya_panics u, ya_panicWith u, ya_capacity u, ya_held u, ya_closed u, ya_values u, ya_out u)
def ys_started (u : SY) (a : Int32) : SY := (ya_lines u, ya_bad u, ya_state u, ya_queued u, a, ya_now u, ya_clock u, ya_turn u, ya_off u, ya_made u, ya_printed u, ya_panicValue u, ya_kind u, ya_opA u, ya_opB u, ya_opC u, ya_open u, ya_seen u, ya_unset u, ya_status u, ya_depth u, ya_since u, ya_resume u, ya_shocked u, ya_queue u, ya_until u, ya_channels u, ya_pc u, ya_vars u, ya_noted u, ya_noteOf u, ya_noteB u, ya_noteC u, ya_asNote u, ya_panics u, ya_panicWith u, ya_capacity u, ya_held u, ya_closed u, ya_values u, ya_out u)
def ys_now (u : SY) (a : Int32) : SY := (ya_lines u, ya_bad u, ya_state u, ya_queued u, ya_started u, a, ya_clock u, ya_turn u, ya_off u, ya_made u, ya_printed u, ya_panicValue u, ya_kind u, ya_opA u, ya_opB u, ya_opC u, ya_open u, ya_seen u, ya_unset u, ya_status u, ya_depth u, ya_since u, ya_resume u, ya_shocked u, ya_queue u, ya_until u, ya_channels u, ya_pc u, ya_vars u, ya_noted u, ya_noteOf u, ya_noteB u, ya_noteC u, ya_asNote u, ya_panics u, ya_panicWith u, ya_capacity u, ya_held u, ya_closed u, ya_values u, ya_out u)
def ys_clock (u : SY) (a : Int64) : SY := (ya_lines u, ya_bad u, ya_state u, ya_queued u, ya_started u, ya_now u, a, ya_turn u, ya_off u, ya_made u, ya_printed u, ya_panicValue u, ya_kind u, ya_opA u, ya_opB u, ya_opC u, ya_open u, ya_seen u, ya_unset u, ya_status u, ya_depth u, ya_since u, ya_resume u, ya_shocked u, ya_queue u, ya_until u, ya_channels u, ya_pc u, ya_vars u, ya_noted u, ya_noteOf u, ya_noteB u, ya_noteC u, ya_asNote u, ya_panics u, ya_panicWith u, ya_capacity u, ya_held u, ya_closed u, ya_values u, ya_out u)
def ys_turn (u : SY) (a : Int32) : SY := (ya_lines u, ya_bad u, ya_state u, ya_queued u, ya_started u, ya_now u, ya_clock u, a, ya_off u, ya_made u, ya_printed u, ya_panicValue u, ya_kind u, ya_opA u, ya_opB u, ya_opC u, ya_open u, ya_seen u, ya_unset u, ya_status u, ya_depth u, ya_since u, ya_resume u, ya_shocked u, ya_queue u, ya_until u, ya_channels u, ya_pc u, ya_vars u, ya_noted u, ya_noteOf u, ya_noteB u, ya_noteC u, ya_asNote u, ya_panics u, ya_panicWith u, ya_capacity u, ya_held u, ya_closed u, ya_values u, ya_out u)
def ys_off (u : SY) (a : Int32) : SY := (ya_lines u, ya_bad u, ya_state u, ya_queued u, ya_started u, ya_now u, ya_clock u, ya_turn u, a, ya_made u, ya_printed u, ya_panicValue u, ya_kind u, ya_opA u, ya_opB u, ya_opC u, ya_open u, ya_seen u, ya_unset u, ya_status u, ya_depth u, ya_since u, ya_resume u, ya_shocked u, ya_queue u, ya_until u, ya_channels u, ya_pc u, ya_vars u, ya_noted u, ya_noteOf u, ya_noteB u, ya_noteC u, ya_asNote u, ya_panics u, ya_panicWith u, ya_capacity u, ya_held u, ya_closed u, ya_values u, ya_out u)
def ys_made (u : SY) (a : Int32) : SY := (ya_lines u, ya_bad u, ya_state u, ya_queued u, ya_started u, ya_now u, ya_clock u, ya_turn u, ya_off u, a, ya_printed u, ya_panicValue u, ya_kind u, ya_opA u, ya_opB u, ya_opC u, ya_open u, ya_seen u, ya_unset u, ya_status u, ya_depth u, ya_since u, ya_resume u, ya_shocked u, ya_queue u, ya_until u, ya_channels u, ya_pc u, ya_vars u, ya_noted u, ya_noteOf u, ya_noteB u, ya_noteC u, ya_asNote u, ya_panics u, ya_panicWith u, ya_capacity u, ya_held u, ya_closed u, ya_values u, ya_out u)
def ys_printed (u : SY) (a : Int32) : SY := (ya_lines u, ya_bad u, ya_state u, ya_queued u, ya_started u, ya_now u, ya_clock u, ya_turn u, ya_off u, ya_made u, a, ya_panicValue u, ya_kind u, ya_opA u, ya_opB u, ya_opC u, ya_open u, ya_seen u, ya_unset u, ya_status u, ya_depth u, ya_since u, ya_resume u, ya_shocked u, ya_queue u, ya_until u, ya_channels u, ya_pc u, ya_vars u, ya_noted u, ya_noteOf u, ya_noteB u, ya_noteC u, ya_asNote u, ya_panics u, ya_panicWith u, ya_capacity u, ya_held u, ya_closed u, ya_values u, ya_out u)
def ys_panicValue (u : SY) (a : Int32) : SY := (ya_lines u, ya_bad u, ya_state u, ya_queued u, ya_started u, ya_now u, ya_clock u, ya_turn u, ya_off u, ya_made u, ya_printed u, a, ya_kind u, ya_opA u, ya_opB u, ya_opC u, ya_open u, ya_seen u, ya_unset u, ya_status u, ya_depth u, ya_since u, ya_resume u, ya_shocked u, ya_queue u, ya_until u, ya_channels u, ya_pc u, ya_vars u, ya_noted u, ya_noteOf u, ya_noteB u, ya_noteC u, ya_asNote u, ya_panics u, ya_panicWith u, ya_capacity u, ya_held u, ya_closed u, ya_values u, ya_out u)
def ys_kind (u : SY) (a : Nat → Int32) : SY := (ya_lines u, ya_bad u, ya_state u, ya_queued u, ya_started u, ya_now u, ya_clock u, ya_turn u, ya_off u, ya_made u, ya_printed u, ya_panicValue u, a, ya_opA u, ya_opB u, ya_opC u, ya_open u, ya_seen u, ya_unset u, ya_status u, ya_depth u, ya_since u, ya_resume u, ya_shocked u, ya_queue u, ya_until u, ya_channels u, ya_pc u, ya_vars u, ya_noted u, ya_noteOf u, ya_noteB u, ya_noteC u, ya_asNote u, ya_panics u, ya_panicWith u, ya_capacity u, ya_held u, ya_closed u, ya_values u, ya_out u)
def ys_opA (u : SY) (a : Nat → Int32) : SY := (ya_lines u, ya_bad u, ya_state u, ya_queued u, ya_started u, ya_now u, ya_clock u, ya_turn u, ya_off u, ya_made u, ya_printed u, ya_panicValue u, ya_kind u, a, ya_opB u, ya_opC u, ya_open u, ya_seen u, ya_unset u, ya_status u, ya_depth u, ya_since u, ya_resume u, ya_shocked u, ya_queue u, ya_until u, ya_channels u, ya_pc u, ya_vars u, ya_noted u, ya_noteOf u, ya_noteB u, ya_noteC u, ya_asNote u, ya_panics u, ya_panicWith u, ya_capacity u, ya_held u, ya_closed u, ya_values u, ya_out u)
def ys_opB (u : SY) (a : Nat → Int32) : SY := (ya_lines u, ya_bad u, ya_state u, ya_queued u, ya_started u, ya_now u, ya_clock u, ya_turn u, ya_off u, ya_made u, ya_printed u, ya_panicValue u, ya_kind u, ya_opA u, a, ya_opC u, ya_open u, ya_seen u, ya_unset u, ya_status u, ya_depth u, ya_since u, ya_resume u, ya_shocked u, ya_queue u, ya_until u, ya_channels u, ya_pc u, ya_vars u, ya_noted u, ya_noteOf u, ya_noteB u, ya_noteC u, ya_asNote u, ya_panics u, ya_panicWith u, ya_capacity u, ya_held u, ya_closed u, ya_values u, ya_out u)
def ys_opC (u : SY) (a : Nat → Int32) : SY := (ya_lines u, ya_bad u, ya_state u, ya_queued u, ya_started u, ya_now u, ya_clock u, ya_turn u, ya_off u, ya_made u, ya_printed u, ya_panicValue u, ya_kind u, ya_opA u, ya_opB u, a, ya_open u, ya_seen u, ya_unset u, ya_status u, ya_depth u, ya_since u, ya_resume u, ya_shocked u, ya_queue u, ya_until u, ya_channels u, ya_pc u, ya_vars u, ya_noted u, ya_noteOf u, ya_noteB u, ya_noteC u, ya_asNote u, ya_panics u, ya_panicWith u, ya_capacity u, ya_held u, ya_closed u, ya_values u, ya_out u)
def ys_open (u : SY) (a : Nat → Int32) : SY := (ya_lines u, ya_bad u, ya_state u, ya_queued u, ya_started u, ya_now u, ya_clock u, ya_turn u, ya_off u, ya_made u, ya_printed u, ya_panicValue u, ya_kind u, ya_opA u, ya_opB u, ya_opC u, a, ya_seen u, ya_unset u, ya_status u, ya_depth u, ya_since u, ya_resume u, ya_shocked u, ya_queue u, ya_until u, ya_channels u, ya_pc u, ya_vars u, ya_noted u, ya_noteOf u, ya_noteB u, ya_noteC u, ya_asNote u, ya_panics u, ya_panicWith u, ya_capacity u, ya_held u, ya_closed u, ya_values u, ya_out u)
def ys_seen (u : SY) (a : Nat → Int32) : SY := (ya_lines u, ya_bad u, ya_state u, ya_queued u, ya_started u, ya_now u, ya_clock u, ya_turn u, ya_off u, ya_made u, ya_printed u, ya_panicValue u, ya_kind u, ya_opA u, ya_opB u, ya_opC u, ya_open u, a, ya_unset u, ya_status u, ya_depth u, ya_since u, ya_resume u, ya_shocked u, ya_queue u, ya_until u, ya_channels u, ya_pc u, ya_vars u, ya_noted u, ya_noteOf u, ya_noteB u, ya_noteC u, ya_asNote u, ya_panics u, ya_panicWith u, ya_capacity u, ya_held u, ya_closed u, ya_values u, ya_out u)
def ys_unset (u : SY) (a : Nat → Int32) : SY := (ya_lines u, ya_bad u, ya_state u, ya_queued u, ya_started u, ya_now u, ya_clock u, ya_turn u, ya_off u, ya_made u, ya_printed u, ya_panicValue u, ya_kind u, ya_opA u, ya_opB u, ya_opC u, ya_open u, ya_seen u, a, ya_status u, ya_depth u, ya_since u, ya_resume u, ya_shocked u, ya_queue u, ya_until u, ya_channels u, ya_pc u, ya_vars u, ya_noted u, ya_noteOf u, ya_noteB u, ya_noteC u, ya_asNote u, ya_panics u, ya_panicWith u, ya_capacity u, ya_held u, ya_closed u, ya_values u, ya_out u)
def ys_status (u : SY) (a : Nat → Int32) : SY := (ya_lines u, ya_bad u, ya_state u, ya_queued u, ya_started u, ya_now u, ya_clock u, ya_turn u, ya_off u, ya_made u, ya_printed u, ya_panicValue u, ya_kind u, ya_opA u, ya_opB u, ya_opC u, ya_open u, ya_seen u, ya_unset u, a, ya_depth u, ya_since u, ya_resume u, ya_shocked u, ya_queue u, ya_until u, ya_channels u, ya_pc u, ya_vars u, ya_noted u, ya_noteOf u, ya_noteB u, ya_noteC u, ya_asNote u, ya_panics u, ya_panicWith u, ya_capacity u, ya_held u, ya_closed u, ya_values u, ya_out u)
def ys_depth (u : SY) (a : Nat → Int32) : SY := (ya_lines u, ya_bad u, ya_state u, ya_queued u, ya_started u, ya_now u, ya_clock u, ya_turn u, ya_off u, ya_made u, ya_printed u, ya_panicValue u, ya_kind u, ya_opA u, ya_opB u, ya_opC u, ya_open u, ya_seen u, ya_unset u, ya_status u, a, ya_since u, ya_resume u, ya_shocked u, ya_queue u, ya_until u, ya_channels u, ya_pc u, ya_vars u, ya_noted u, ya_noteOf u, ya_noteB u, ya_noteC u, ya_asNote u, ya_panics u, ya_panicWith u, ya_capacity u, ya_held u, ya_closed u, ya_values u, ya_out u)
def ys_since (u : SY) (a : Nat → Int32) : SY := (ya_lines u, ya_bad u, ya_state u, ya_queued u, ya_started u, ya_now u, ya_clock u, ya_turn u, ya_off u, ya_made u, ya_printed u, ya_panicValue u, ya_kind u, ya_opA u, ya_opB u, ya_opC u, ya_open u, ya_seen u, ya_unset u, ya_status u, ya_depth u, a, ya_resume u, ya_shocked u, ya_queue u, ya_until u, ya_channels u, ya_pc u, ya_vars u, ya_noted u, ya_noteOf u, ya_noteB u, ya_noteC u, ya_asNote u, ya_panics u, ya_panicWith u, ya_capacity u, ya_held u, ya_closed u, ya_values u, ya_out u)
def ys_resume (u : SY) (a : Nat → Int32) : SY := (ya_lines u, ya_bad u, ya_state u, ya_queued u, ya_started u, ya_now u, ya_clock u, ya_turn u, ya_off u, ya_made u, ya_printed u, ya_panicValue u, ya_kind u, ya_opA u, ya_opB u, ya_opC u, ya_open u, ya_seen u, ya_unset u, ya_status u, ya_depth u, ya_since u, a, ya_shocked u, ya_queue u, ya_until u, ya_channels u, ya_pc u, ya_vars u, ya_noted u, ya_noteOf u, ya_noteB u, ya_noteC u, ya_asNote u, ya_panics u, ya_panicWith u, ya_capacity u, ya_held u, ya_closed u, ya_values u, ya_out u)
def ys_shocked (u : SY) (a : Nat → Int32) : SY := (ya_lines u, ya_bad u, ya_state u, ya_queued u, ya_started u, ya_now u, ya_clock u, ya_turn u, ya_off u, ya_made u, ya_printed u, ya_panicValue u, ya_kind u, ya_opA u, ya_opB u, ya_opC u, ya_open u, ya_seen u, ya_unset u, ya_status u, ya_depth u, ya_since u, ya_resume u, a, ya_queue u, ya_until u, ya_channels u, ya_pc u, ya_vars u, ya_noted u, ya_noteOf u, ya_noteB u, ya_noteC u, ya_asNote u, ya_panics u, ya_panicWith u, ya_capacity u, ya_held u, ya_closed u, ya_values u, ya_out u)
def ys_queue (u : SY) (a : Nat → Int32) : SY := (ya_lines u, ya_bad u, ya_state u, ya_queued u, ya_started u, ya_now u, ya_clock u, ya_turn u, ya_off u, ya_made u, ya_printed u, ya_panicValue u, ya_kind u, ya_opA u, ya_opB u, ya_opC u, ya_open u, ya_seen u, ya_unset u, ya_status u, ya_depth u, ya_since u, ya_resume u, ya_shocked u, a, ya_until u, ya_channels u, ya_pc u, ya_vars u, ya_noted u, ya_noteOf u, ya_noteB u, ya_noteC u, ya_asNote u, ya_panics u, ya_panicWith u, ya_capacity u, ya_held u, ya_closed u, ya_values u, ya_out u)
def ys_until (u : SY) (a : Nat → Int64) : SY := (ya_lines u, ya_bad u, ya_state u, ya_queued u, ya_started u, ya_now u, ya_clock u, ya_turn u, ya_off u, ya_made u, ya_printed u, ya_panicValue u, ya_kind u, ya_opA u, ya_opB u, ya_opC u, ya_open u, ya_seen u, ya_unset u, ya_status u, ya_depth u, ya_since u, ya_resume u, ya_shocked u, ya_queue u, a, ya_channels u, ya_pc u, ya_vars u, ya_noted u, ya_noteOf u, ya_noteB u, ya_noteC u, ya_asNote u, ya_panics u, ya_panicWith u, ya_capacity u, ya_held u, ya_closed u, ya_values u, ya_out u)
def ys_channels (u : SY) (a : Nat → Int32) : SY := (ya_lines u, ya_bad u, ya_state u, ya_queued u, ya_started u, ya_now u, ya_clock u, ya_turn u, ya_off u, ya_made u, ya_printed u, ya_panicValue u, ya_kind u, ya_opA u, ya_opB u, ya_opC u, ya_open u, ya_seen u, ya_unset u, ya_status u, ya_depth u, ya_since u, ya_resume u, ya_shocked u, ya_queue u, ya_until u, a, ya_pc u, ya_vars u, ya_noted u, ya_noteOf u, ya_noteB u, ya_noteC u, ya_asNote u, ya_panics u, ya_panicWith u, ya_capacity u, ya_held u, ya_closed u, ya_values u, ya_out u)
def ys_pc (u : SY) (a : Nat → Int32) : SY := (ya_lines u, ya_bad u, ya_state u, ya_queued u, ya_started u, ya_now u, ya_clock u, ya_turn u, ya_off u, ya_made u, ya_printed u, ya_panicValue u, ya_kind u, ya_opA u, ya_opB u, ya_opC u, ya_open u, ya_seen u, ya_unset u, ya_status u, ya_depth u, ya_since u, ya_resume u, ya_shocked u, ya_queue u, ya_until u, ya_channels u, a, ya_vars u, ya_noted u, ya_noteOf u, ya_noteB u, ya_noteC u, ya_asNote u, ya_panics u, ya_panicWith u, ya_capacity u, ya_held u, ya_closed u, ya_values u, ya_out u)
def ys_vars (u : SY) (a : Nat → Int32) : SY := (ya_lines u, ya_bad u, ya_state u, ya_queued u, ya_started u, ya_now u, ya_clock u, ya_turn u, ya_off u, ya_made u, ya_printed u, ya_panicValue u, ya_kind u, ya_opA u, ya_opB u, ya_opC u, ya_open u, ya_seen u, ya_unset u, ya_status u, ya_depth u, ya_since u, ya_resume u, ya_shocked u, ya_queue u, ya_until u, ya_channels u, ya_pc u, a, ya_noted u, ya_noteOf u, ya_noteB u, ya_noteC u, ya_asNote u, ya_panics u, ya_panicWith u, ya_capacity u, ya_held u, ya_closed u, ya_values u, ya_out u)
def ys_noted (u : SY) (a : Nat → Int32) : SY := (ya_lines u, ya_bad u, ya_state u, ya_queued u, ya_started u, ya_now u, ya_clock u, ya_turn u, ya_off u, ya_made u, ya_printed u, ya_panicValue u, ya_kind u, ya_opA u, ya_opB u, ya_opC u, ya_open u, ya_seen u, ya_unset u, ya_status u, ya_depth u, ya_since u, ya_resume u, ya_shocked u, ya_queue u, ya_until u, ya_channels u, ya_pc u, ya_vars u, a, ya_noteOf u, ya_noteB u, ya_noteC u, ya_asNote u, ya_panics u, ya_panicWith u, ya_capacity u, ya_held u, ya_closed u, ya_values u, ya_out u)
def ys_noteOf (u : SY) (a : Nat → Int32) : SY := (ya_lines u, ya_bad u, ya_state u, ya_queued u, ya_started u, ya_now u, ya_clock u, ya_turn u, ya_off u, ya_made u, ya_printed u, ya_panicValue u, ya_kind u, ya_opA u, ya_opB u, ya_opC u, ya_open u, ya_seen u, ya_unset u, ya_status u, ya_depth u, ya_since u, ya_resume u, ya_shocked u, ya_queue u, ya_until u, ya_channels u, ya_pc u, ya_vars u, ya_noted u, a, ya_noteB u, ya_noteC u, ya_asNote u, ya_panics u, ya_panicWith u, ya_capacity u, ya_held u, ya_closed u, ya_values u, ya_out u)
def ys_noteB (u : SY) (a : Nat → Int32) : SY := (ya_lines u, ya_bad u, ya_state u, ya_queued u, ya_started u, ya_now u, ya_clock u, ya_turn u, ya_off u, ya_made u, ya_printed u, ya_panicValue u, ya_kind u, ya_opA u, ya_opB u, ya_opC u, ya_open u, ya_seen u, ya_unset u, ya_status u, ya_depth u, ya_since u, ya_resume u, ya_shocked u, ya_queue u, ya_until u, ya_channels u, ya_pc u, ya_vars u, ya_noted u, ya_noteOf u, a, ya_noteC u, ya_asNote u, ya_panics u, ya_panicWith u, ya_capacity u, ya_held u, ya_closed u, ya_values u, ya_out u)
def ys_noteC (u : SY) (a : Nat → Int32) : SY := (ya_lines u, ya_bad u, ya_state u, ya_queued u, ya_started u, ya_now u, ya_clock u, ya_turn u, ya_off u, ya_made u, ya_printed u, ya_panicValue u, ya_kind u, ya_opA u, ya_opB u, ya_opC u, ya_open u, ya_seen u, ya_unset u, ya_status u, ya_depth u, ya_since u, ya_resume u, ya_shocked u, ya_queue u, ya_until u, ya_channels u, ya_pc u, ya_vars u, ya_noted u, ya_noteOf u, ya_noteB u, a, ya_asNote u, ya_panics u, ya_panicWith u, ya_capacity u, ya_held u, ya_closed u, ya_values u, ya_out u)
def ys_asNote (u : SY) (a : Nat → Int32) : SY := (ya_lines u, ya_bad u, ya_state u, ya_queued u, ya_started u, ya_now u, ya_clock u, ya_turn u, ya_off u, ya_made u, ya_printed u, ya_panicValue u, ya_kind u, ya_opA u, ya_opB u, ya_opC u, ya_open u, ya_seen u, ya_unset u, ya_status u, ya_depth u, ya_since u, ya_resume u, ya_shocked u, ya_queue u, ya_until u, ya_channels u, ya_pc u, ya_vars u, ya_noted u, ya_noteOf u, ya_noteB u, ya_noteC u, a, ya_panics u, ya_panicWith u, ya_capacity u, ya_held u, ya_closed u, ya_values u, ya_out u)
def ys_panics (u : SY) (a : Nat → Int32) : SY := (ya_lines u, ya_bad u, ya_state u, ya_queued u, ya_started u, ya_now u, ya_clock u, ya_turn u, ya_off u, ya_made u, ya_printed u, ya_panicValue u, ya_kind u, ya_opA u, ya_opB u, ya_opC u, ya_open u, ya_seen u, ya_unset u, ya_status u, ya_depth u, ya_since u, ya_resume u, ya_shocked u, ya_queue u, ya_until u, ya_channels u, ya_pc u, ya_vars u, ya_noted u, ya_noteOf u, ya_noteB u, ya_noteC u, ya_asNote u, a, ya_panicWith u, ya_capacity u, ya_held u, ya_closed u, ya_values u, ya_out u)
def ys_panicWith (u : SY) (a : Nat → Int32) : SY := (ya_lines u, ya_bad u, ya_state u, ya_queued u, ya_started u, ya_now u, ya_clock u, ya_turn u, ya_off u, ya_made u, ya_printed u, ya_panicValue u, ya_kind u, ya_opA u, ya_opB u, ya_opC u, ya_open u, ya_seen u, ya_unset u, ya_status u, ya_depth u, ya_since u, ya_resume u, ya_shocked u, ya_queue u, ya_until u, ya_channels u, ya_pc u, ya_vars u, ya_noted u, ya_noteOf u, ya_noteB u, ya_noteC u, ya_asNote u, ya_panics u, a, ya_capacity u, ya_held u, ya_closed u, ya_values u, ya_out u)
def ys_capacity (u : SY) (a : Nat → Int32) : SY := (ya_lines u, ya_bad u, ya_state u, ya_queued u, ya_started u, ya_now u, ya_clock u, ya_turn u, ya_off u, ya_made u, ya_printed u, ya_panicValue u, ya_kind u, ya_opA u, ya_opB u, ya_opC u, ya_open u, ya_seen u, ya_unset u, ya_status u, ya_depth u, ya_since u, ya_resume u, ya_shocked u, ya_queue u, ya_until u, ya_channels u, ya_pc u, ya_vars u, ya_noted u, ya_noteOf u, ya_noteB u, ya_noteC u, ya_asNote u, ya_panics u, ya_panicWith u, a, ya_held u, ya_closed u, ya_values u, ya_out u)
def ys_held (u : SY) (a : Nat → Int32) : SY := (ya_lines u, ya_bad u, ya_state u, ya_queued u, ya_started u, ya_now u, ya_clock u, ya_turn u, ya_off u, ya_made u, ya_printed u, ya_panicValue u, ya_kind u, ya_opA u, ya_opB u, ya_opC u, ya_open u, ya_seen u, ya_unset u, ya_status u, ya_depth u, ya_since u, ya_resume u, ya_shocked u, ya_queue u, ya_until u, ya_channels u, ya_pc u, ya_vars u, ya_noted u, ya_noteOf u, ya_noteB u, ya_noteC u, ya_asNote u, ya_panics u, ya_panicWith u, ya_capacity u, a, ya_closed u, ya_values u, ya_out u)
def ys_closed (u : SY) (a : Nat → Int32) : SY := (ya_lines u, ya_bad u, ya_state u, ya_queued u, ya_started u, ya_now u, ya_clock u, ya_turn u, ya_off u, ya_made u, ya_printed u, ya_panicValue u, ya_kind u, ya_opA u, ya_opB u, ya_opC u, ya_open u, ya_seen u, ya_unset u, ya_status u, ya_depth u, ya_since u, ya_resume u, ya_shocked u, ya_queue u, ya_until u, ya_channels u, ya_pc u, ya_vars u, ya_noted u, ya_noteOf u, ya_noteB u, ya_noteC u, ya_asNote u, ya_panics u, ya_panicWith u, ya_capacity u, ya_held u, a, ya_values u, ya_out u)
def ys_values (u : SY) (a : Nat → Int32) : SY := (ya_lines u, ya_bad u, ya_state u, ya_queued u, ya_started u, ya_now u, ya_clock u, ya_turn u, ya_off u, ya_made u, ya_printed u, ya_panicValue u, ya_kind u, ya_opA u, ya_opB u, ya_opC u, ya_open u, ya_seen u, ya_unset u, ya_status u, ya_depth u, ya_since u, ya_resume u, ya_shocked u, ya_queue u, ya_until u, ya_channels u, ya_pc u, ya_vars u, ya_noted u, ya_noteOf u, ya_noteB u, ya_noteC u, ya_asNote u, ya_panics u, ya_panicWith u, ya_capacity u, ya_held u, ya_closed u, a, ya_out u)
def ys_out (u : SY) (a : Nat → Int32) : SY := (ya_lines u, ya_bad u, ya_state u, ya_queued u, ya_started u, ya_now u, ya_clock u, ya_turn u, ya_off u, ya_made u, ya_printed u, ya_panicValue u, ya_kind u, ya_opA u, ya_opB u, ya_opC u, ya_open u, ya_seen u, ya_unset u, ya_status u, ya_depth u, ya_since u, ya_resume u, ya_shocked u, ya_queue u, ya_until u, ya_channels u, ya_pc u, ya_vars u, ya_noted u, ya_noteOf u, ya_noteB u, ya_noteC u, ya_asNote u, ya_panics u, ya_panicWith u, ya_capacity u, ya_held u, ya_closed u, ya_values u, a)
end
section
/-! rows of the kit's PURE-ROWS, pasted -/
theorem pk_us {f : Nat → Int32} {k : Nat} {x : Int32} : upd f k x k = x := if_pos rfl
theorem pk_un {f : Nat → Int32} {k j : Nat} {x : Int32} (h : j ≠ k) : upd f k x j = f j := if_neg h
theorem pk_uLs {f : Nat → Int64} {k : Nat} {x : Int64} : vp_updL f k x k = x := if_pos rfl
theorem pk_uLn {f : Nat → Int64} {k j : Nat} {x : Int64} (h : j ≠ k) : vp_updL f k x j = f j := if_neg h
theorem pk_sub {a b : Nat} (h : b ≤ a) : nI a - nI b = nI (a - b) := by
  obtain ⟨c, rfl⟩ : ∃ c, a = c + b := ⟨a - b, by omega⟩
  rw [← nI_add, Int32.add_sub_cancel, Nat.add_sub_cancel]
theorem pk_m1 (n : Nat) : nI (n + 1) + (-1) = nI n := by
  rw [← nI_1, Int32.add_assoc, show (1 : Int32) + (-1) = 0 from rfl, Int32.add_zero]
theorem pk_mul (a b : Nat) : nI a * nI b = nI (a * b) := (Int32.ofNat_mul a b).symm

/-! X: small methods -/
theorem xe_top {g d : Nat} : ((nI g * 4) + nI (d + 1)) - 1 = nI (4 * g + d) := by
  rw [show (4 : Int32) = nI 4 from rfl, pk_mul, nI_add, show (1 : Int32) = nI 1 from rfl, pk_sub (by omega)]
  exact congrArg nI (by omega)
theorem xp_topOf {post : Int32 → Prop} {u : SX} {g d : Nat} (hg : g < 12) (hd : xa_depth u g = nI (d + 1)) (h : post (nI (4 * g + d))) : wpX_topOf post u (nI g) := by
  obtain ⟨f_lineCount, f_functionCount, f_foundLine, f_state, f_time, f_endingPanic, f_outputCount, f_channelCount, f_goroutineCount, f_waitsBegun, f_running, f_queueLength, a_kinds, a_argA, a_argB, a_argC, a_blockOf, a_endOf, a_elseOf, a_functionLine, a_surelySet, a_outputs, a_capacity, a_fill, a_closed, a_held, a_status, a_depth, a_waitOrder, a_waitUntil, a_queue, a_slotWish, a_slotLine, a_position, a_mode, a_panicOf, a_noteCount, a_noteFunction, a_noteValues, a_variables⟩ := u
  refine ⟨vp_in_nI hg (by decide), ?_⟩
  have e : a_depth g = nI (d + 1) := hd
  rw [nI_clamp (by omega), e, xe_top]
  exact h
theorem xp_panic {post : SX → Prop} {u : SX} {t : Nat} {v : Int32} (ht : t < 48) (h : post (xs_panicOf (xs_mode u (upd (xa_mode u) t 2)) (upd (xa_panicOf u) t v))) : wpX_panic post u (nI t) v := by
  obtain ⟨f_lineCount, f_functionCount, f_foundLine, f_state, f_time, f_endingPanic, f_outputCount, f_channelCount, f_goroutineCount, f_waitsBegun, f_running, f_queueLength, a_kinds, a_argA, a_argB, a_argC, a_blockOf, a_endOf, a_elseOf, a_functionLine, a_surelySet, a_outputs, a_capacity, a_fill, a_closed, a_held, a_status, a_depth, a_waitOrder, a_waitUntil, a_queue, a_slotWish, a_slotLine, a_position, a_mode, a_panicOf, a_noteCount, a_noteFunction, a_noteValues, a_variables⟩ := u
  have e : (nI t).toNatClampNeg = t := nI_clamp (by omega)
  refine ⟨vp_in_nI ht (by decide), nm_r (by rw [e]) ⟨vp_in_nI ht (by decide), nm_r (by rw [e]) ?_⟩⟩
  exact h
theorem xt_eta {post : SX → Prop} {u : SX} (h : post u) : (match u with | (f_lineCount, f_functionCount, f_foundLine, f_state, f_time, f_endingPanic, f_outputCount, f_channelCount, f_goroutineCount, f_waitsBegun, f_running, f_queueLength, a_kinds, a_argA, a_argB, a_argC, a_blockOf, a_endOf, a_elseOf, a_functionLine, a_surelySet, a_outputs, a_capacity, a_fill, a_closed, a_held, a_status, a_depth, a_waitOrder, a_waitUntil, a_queue, a_slotWish, a_slotLine, a_position, a_mode, a_panicOf, a_noteCount, a_noteFunction, a_noteValues, a_variables) => post (f_lineCount, f_functionCount, f_foundLine, f_state, f_time, f_endingPanic, f_outputCount, f_channelCount, f_goroutineCount, f_waitsBegun, f_running, f_queueLength, a_kinds, a_argA, a_argB, a_argC, a_blockOf, a_endOf, a_elseOf, a_functionLine, a_surelySet, a_outputs, a_capacity, a_fill, a_closed, a_held, a_status, a_depth, a_waitOrder, a_waitUntil, a_queue, a_slotWish, a_slotLine, a_position, a_mode, a_panicOf, a_noteCount, a_noteFunction, a_noteValues, a_variables)) := h
end
section
/-! each printed predicate over the accessors: the state is one argument -/
def cx_argumentsFit_179 (post : Int32 → Prop) (x1 : Int32) (x2 : Int32) (u : SX) : Prop := wX_argumentsFit_179 post x1 x2 (xa_lineCount u) (xa_functionCount u) (xa_foundLine u) (xa_state u) (xa_time u) (xa_endingPanic u) (xa_outputCount u) (xa_channelCount u) (xa_goroutineCount u) (xa_waitsBegun u) (xa_running u) (xa_queueLength u) (xa_kinds u) (xa_argA u) (xa_argB u) (xa_argC u) (xa_blockOf u) (xa_endOf u) (xa_elseOf u) (xa_functionLine u) (xa_surelySet u) (xa_outputs u) (xa_capacity u) (xa_fill u) (xa_closed u) (xa_held u) (xa_status u) (xa_depth u) (xa_waitOrder u) (xa_waitUntil u) (xa_queue u) (xa_slotWish u) (xa_slotLine u) (xa_position u) (xa_mode u) (xa_panicOf u) (xa_noteCount u) (xa_noteFunction u) (xa_noteValues u) (xa_variables u)
def cx_argumentsFit_111 (post : Int32 → Prop) (x2 : Int32) (x4 : Int32) (u : SX) : Prop := wX_argumentsFit_111 post x2 x4 (xa_lineCount u) (xa_functionCount u) (xa_foundLine u) (xa_state u) (xa_time u) (xa_endingPanic u) (xa_outputCount u) (xa_channelCount u) (xa_goroutineCount u) (xa_waitsBegun u) (xa_running u) (xa_queueLength u) (xa_kinds u) (xa_argA u) (xa_argB u) (xa_argC u) (xa_blockOf u) (xa_endOf u) (xa_elseOf u) (xa_functionLine u) (xa_surelySet u) (xa_outputs u) (xa_capacity u) (xa_fill u) (xa_closed u) (xa_held u) (xa_status u) (xa_depth u) (xa_waitOrder u) (xa_waitUntil u) (xa_queue u) (xa_slotWish u) (xa_slotLine u) (xa_position u) (xa_mode u) (xa_panicOf u) (xa_noteCount u) (xa_noteFunction u) (xa_noteValues u) (xa_variables u)
def cx_argumentsFit_157 (post : Int32 → Prop) (x2 : Int32) (u : SX) : Prop := wX_argumentsFit_157 post x2 (xa_lineCount u) (xa_functionCount u) (xa_foundLine u) (xa_state u) (xa_time u) (xa_endingPanic u) (xa_outputCount u) (xa_channelCount u) (xa_goroutineCount u) (xa_waitsBegun u) (xa_running u) (xa_queueLength u) (xa_kinds u) (xa_argA u) (xa_argB u) (xa_argC u) (xa_blockOf u) (xa_endOf u) (xa_elseOf u) (xa_functionLine u) (xa_surelySet u) (xa_outputs u) (xa_capacity u) (xa_fill u) (xa_closed u) (xa_held u) (xa_status u) (xa_depth u) (xa_waitOrder u) (xa_waitUntil u) (xa_queue u) (xa_slotWish u) (xa_slotLine u) (xa_position u) (xa_mode u) (xa_panicOf u) (xa_noteCount u) (xa_noteFunction u) (xa_noteValues u) (xa_variables u)
def cx_sectionFits_44 (post : Int32 → Prop) (J10 : Int32 → Int32 → Int32 → Prop) (x1 : Int32) (x2 : Int32) (x3 : Int32) (x4 : Int32) (x5 : Int32) (u : SX) : Prop := wX_sectionFits_44 post J10 x1 x2 x3 x4 x5 (xa_lineCount u) (xa_functionCount u) (xa_foundLine u) (xa_state u) (xa_time u) (xa_endingPanic u) (xa_outputCount u) (xa_channelCount u) (xa_goroutineCount u) (xa_waitsBegun u) (xa_running u) (xa_queueLength u) (xa_kinds u) (xa_argA u) (xa_argB u) (xa_argC u) (xa_blockOf u) (xa_endOf u) (xa_elseOf u) (xa_functionLine u) (xa_surelySet u) (xa_outputs u) (xa_capacity u) (xa_fill u) (xa_closed u) (xa_held u) (xa_status u) (xa_depth u) (xa_waitOrder u) (xa_waitUntil u) (xa_queue u) (xa_slotWish u) (xa_slotLine u) (xa_position u) (xa_mode u) (xa_panicOf u) (xa_noteCount u) (xa_noteFunction u) (xa_noteValues u) (xa_variables u)
def cx_sectionFits_10 (post : Int32 → Prop) (x1 : Int32) (x2 : Int32) (u : SX) (n : Nat) (x3 : Int32) (x4 : Int32) (x5 : Int32) : Prop := wX_sectionFits_10 post x1 x2 (xa_lineCount u) (xa_functionCount u) (xa_foundLine u) (xa_state u) (xa_time u) (xa_endingPanic u) (xa_outputCount u) (xa_channelCount u) (xa_goroutineCount u) (xa_waitsBegun u) (xa_running u) (xa_queueLength u) (xa_kinds u) (xa_argA u) (xa_argB u) (xa_argC u) (xa_blockOf u) (xa_endOf u) (xa_elseOf u) (xa_functionLine u) (xa_surelySet u) (xa_outputs u) (xa_capacity u) (xa_fill u) (xa_closed u) (xa_held u) (xa_status u) (xa_depth u) (xa_waitOrder u) (xa_waitUntil u) (xa_queue u) (xa_slotWish u) (xa_slotLine u) (xa_position u) (xa_mode u) (xa_panicOf u) (xa_noteCount u) (xa_noteFunction u) (xa_noteValues u) (xa_variables u) n x3 x4 x5
def cx_loopAround_4 (post : Int32 → Prop) (u : SX) (n : Nat) (x2 : Int32) (x3 : Int32) : Prop := wX_loopAround_4 post (xa_lineCount u) (xa_functionCount u) (xa_foundLine u) (xa_state u) (xa_time u) (xa_endingPanic u) (xa_outputCount u) (xa_channelCount u) (xa_goroutineCount u) (xa_waitsBegun u) (xa_running u) (xa_queueLength u) (xa_kinds u) (xa_argA u) (xa_argB u) (xa_argC u) (xa_blockOf u) (xa_endOf u) (xa_elseOf u) (xa_functionLine u) (xa_surelySet u) (xa_outputs u) (xa_capacity u) (xa_fill u) (xa_closed u) (xa_held u) (xa_status u) (xa_depth u) (xa_waitOrder u) (xa_waitUntil u) (xa_queue u) (xa_slotWish u) (xa_slotLine u) (xa_position u) (xa_mode u) (xa_panicOf u) (xa_noteCount u) (xa_noteFunction u) (xa_noteValues u) (xa_variables u) n x2 x3
def cx_fitsInto_89 (post : Int32 → Prop) (x1 : Int32) (x3 : Int32) (u : SX) : Prop := wX_fitsInto_89 post x1 x3 (xa_lineCount u) (xa_functionCount u) (xa_foundLine u) (xa_state u) (xa_time u) (xa_endingPanic u) (xa_outputCount u) (xa_channelCount u) (xa_goroutineCount u) (xa_waitsBegun u) (xa_running u) (xa_queueLength u) (xa_kinds u) (xa_argA u) (xa_argB u) (xa_argC u) (xa_blockOf u) (xa_endOf u) (xa_elseOf u) (xa_functionLine u) (xa_surelySet u) (xa_outputs u) (xa_capacity u) (xa_fill u) (xa_closed u) (xa_held u) (xa_status u) (xa_depth u) (xa_waitOrder u) (xa_waitUntil u) (xa_queue u) (xa_slotWish u) (xa_slotLine u) (xa_position u) (xa_mode u) (xa_panicOf u) (xa_noteCount u) (xa_noteFunction u) (xa_noteValues u) (xa_variables u)
def cx_formFault_104 (post : Int32 → SX → Prop) (J9 : Int32 → Int32 → SX → Prop) (x1 : Int32) (x2 : Int32) (x3 : Int32) (u : SX) : Prop := wX_formFault_104 post (fun y_x1 y_x2 y_f_functionCount y_a_kinds y_a_argA y_a_argB y_a_argC y_a_blockOf y_a_endOf y_a_elseOf y_a_functionLine y_a_surelySet y_a_outputs y_a_capacity y_a_fill y_a_closed y_a_held y_a_status y_a_depth y_a_waitOrder y_a_waitUntil y_a_queue y_a_slotWish y_a_slotLine y_a_position y_a_mode y_a_panicOf y_a_noteCount y_a_noteFunction y_a_noteValues y_a_variables => J9 y_x1 y_x2 (xa_lineCount u, y_f_functionCount, xa_foundLine u, xa_state u, xa_time u, xa_endingPanic u, xa_outputCount u, xa_channelCount u, xa_goroutineCount u, xa_waitsBegun u, xa_running u, xa_queueLength u, y_a_kinds, y_a_argA, y_a_argB, y_a_argC, y_a_blockOf, y_a_endOf, y_a_elseOf, y_a_functionLine, y_a_surelySet, y_a_outputs, y_a_capacity, y_a_fill, y_a_closed, y_a_held, y_a_status, y_a_depth, y_a_waitOrder, y_a_waitUntil, y_a_queue, y_a_slotWish, y_a_slotLine, y_a_position, y_a_mode, y_a_panicOf, y_a_noteCount, y_a_noteFunction, y_a_noteValues, y_a_variables)) x1 x2 x3 (xa_lineCount u) (xa_functionCount u) (xa_foundLine u) (xa_state u) (xa_time u) (xa_endingPanic u) (xa_outputCount u) (xa_channelCount u) (xa_goroutineCount u) (xa_waitsBegun u) (xa_running u) (xa_queueLength u) (xa_kinds u) (xa_argA u) (xa_argB u) (xa_argC u) (xa_blockOf u) (xa_endOf u) (xa_elseOf u) (xa_functionLine u) (xa_surelySet u) (xa_outputs u) (xa_capacity u) (xa_fill u) (xa_closed u) (xa_held u) (xa_status u) (xa_depth u) (xa_waitOrder u) (xa_waitUntil u) (xa_queue u) (xa_slotWish u) (xa_slotLine u) (xa_position u) (xa_mode u) (xa_panicOf u) (xa_noteCount u) (xa_noteFunction u) (xa_noteValues u) (xa_variables u)
def cx_formFault_85 (post : Int32 → SX → Prop) (J9 : Int32 → Int32 → SX → Prop) (x1 : Int32) (x2 : Int32) (x3 : Int32) (u : SX) : Prop := wX_formFault_85 post (fun y_x1 y_x2 y_f_functionCount y_a_kinds y_a_argA y_a_argB y_a_argC y_a_blockOf y_a_endOf y_a_elseOf y_a_functionLine y_a_surelySet y_a_outputs y_a_capacity y_a_fill y_a_closed y_a_held y_a_status y_a_depth y_a_waitOrder y_a_waitUntil y_a_queue y_a_slotWish y_a_slotLine y_a_position y_a_mode y_a_panicOf y_a_noteCount y_a_noteFunction y_a_noteValues y_a_variables => J9 y_x1 y_x2 (xa_lineCount u, y_f_functionCount, xa_foundLine u, xa_state u, xa_time u, xa_endingPanic u, xa_outputCount u, xa_channelCount u, xa_goroutineCount u, xa_waitsBegun u, xa_running u, xa_queueLength u, y_a_kinds, y_a_argA, y_a_argB, y_a_argC, y_a_blockOf, y_a_endOf, y_a_elseOf, y_a_functionLine, y_a_surelySet, y_a_outputs, y_a_capacity, y_a_fill, y_a_closed, y_a_held, y_a_status, y_a_depth, y_a_waitOrder, y_a_waitUntil, y_a_queue, y_a_slotWish, y_a_slotLine, y_a_position, y_a_mode, y_a_panicOf, y_a_noteCount, y_a_noteFunction, y_a_noteValues, y_a_variables)) x1 x2 x3 (xa_lineCount u) (xa_functionCount u) (xa_foundLine u) (xa_state u) (xa_time u) (xa_endingPanic u) (xa_outputCount u) (xa_channelCount u) (xa_goroutineCount u) (xa_waitsBegun u) (xa_running u) (xa_queueLength u) (xa_kinds u) (xa_argA u) (xa_argB u) (xa_argC u) (xa_blockOf u) (xa_endOf u) (xa_elseOf u) (xa_functionLine u) (xa_surelySet u) (xa_outputs u) (xa_capacity u) (xa_fill u) (xa_closed u) (xa_held u) (xa_status u) (xa_depth u) (xa_waitOrder u) (xa_waitUntil u) (xa_queue u) (xa_slotWish u) (xa_slotLine u) (xa_position u) (xa_mode u) (xa_panicOf u) (xa_noteCount u) (xa_noteFunction u) (xa_noteValues u) (xa_variables u)
def cx_formFault_73 (post : Int32 → SX → Prop) (J9 : Int32 → Int32 → SX → Prop) (x1 : Int32) (x2 : Int32) (x3 : Int32) (u : SX) : Prop := wX_formFault_73 post (fun y_x1 y_x2 y_f_functionCount y_a_kinds y_a_argA y_a_argB y_a_argC y_a_blockOf y_a_endOf y_a_elseOf y_a_functionLine y_a_surelySet y_a_outputs y_a_capacity y_a_fill y_a_closed y_a_held y_a_status y_a_depth y_a_waitOrder y_a_waitUntil y_a_queue y_a_slotWish y_a_slotLine y_a_position y_a_mode y_a_panicOf y_a_noteCount y_a_noteFunction y_a_noteValues y_a_variables => J9 y_x1 y_x2 (xa_lineCount u, y_f_functionCount, xa_foundLine u, xa_state u, xa_time u, xa_endingPanic u, xa_outputCount u, xa_channelCount u, xa_goroutineCount u, xa_waitsBegun u, xa_running u, xa_queueLength u, y_a_kinds, y_a_argA, y_a_argB, y_a_argC, y_a_blockOf, y_a_endOf, y_a_elseOf, y_a_functionLine, y_a_surelySet, y_a_outputs, y_a_capacity, y_a_fill, y_a_closed, y_a_held, y_a_status, y_a_depth, y_a_waitOrder, y_a_waitUntil, y_a_queue, y_a_slotWish, y_a_slotLine, y_a_position, y_a_mode, y_a_panicOf, y_a_noteCount, y_a_noteFunction, y_a_noteValues, y_a_variables)) x1 x2 x3 (xa_lineCount u) (xa_functionCount u) (xa_foundLine u) (xa_state u) (xa_time u) (xa_endingPanic u) (xa_outputCount u) (xa_channelCount u) (xa_goroutineCount u) (xa_waitsBegun u) (xa_running u) (xa_queueLength u) (xa_kinds u) (xa_argA u) (xa_argB u) (xa_argC u) (xa_blockOf u) (xa_endOf u) (xa_elseOf u) (xa_functionLine u) (xa_surelySet u) (xa_outputs u) (xa_capacity u) (xa_fill u) (xa_closed u) (xa_held u) (xa_status u) (xa_depth u) (xa_waitOrder u) (xa_waitUntil u) (xa_queue u) (xa_slotWish u) (xa_slotLine u) (xa_position u) (xa_mode u) (xa_panicOf u) (xa_noteCount u) (xa_noteFunction u) (xa_noteValues u) (xa_variables u)
def cx_formFault_9 (post : Int32 → SX → Prop) (n : Nat) (x1 : Int32) (x2 : Int32) (u : SX) : Prop := wX_formFault_9 post (xa_lineCount u) (xa_foundLine u) (xa_state u) (xa_time u) (xa_endingPanic u) (xa_outputCount u) (xa_channelCount u) (xa_goroutineCount u) (xa_waitsBegun u) (xa_running u) (xa_queueLength u) n x1 x2 (xa_functionCount u) (xa_kinds u) (xa_argA u) (xa_argB u) (xa_argC u) (xa_blockOf u) (xa_endOf u) (xa_elseOf u) (xa_functionLine u) (xa_surelySet u) (xa_outputs u) (xa_capacity u) (xa_fill u) (xa_closed u) (xa_held u) (xa_status u) (xa_depth u) (xa_waitOrder u) (xa_waitUntil u) (xa_queue u) (xa_slotWish u) (xa_slotLine u) (xa_position u) (xa_mode u) (xa_panicOf u) (xa_noteCount u) (xa_noteFunction u) (xa_noteValues u) (xa_variables u)
def cx_calleeFault_2 (post : Int32 → Prop) (u : SX) (n : Nat) (x1 : Int32) : Prop := wX_calleeFault_2 post (xa_lineCount u) (xa_functionCount u) (xa_foundLine u) (xa_state u) (xa_time u) (xa_endingPanic u) (xa_outputCount u) (xa_channelCount u) (xa_goroutineCount u) (xa_waitsBegun u) (xa_running u) (xa_queueLength u) (xa_kinds u) (xa_argA u) (xa_argB u) (xa_argC u) (xa_blockOf u) (xa_endOf u) (xa_elseOf u) (xa_functionLine u) (xa_surelySet u) (xa_outputs u) (xa_capacity u) (xa_fill u) (xa_closed u) (xa_held u) (xa_status u) (xa_depth u) (xa_waitOrder u) (xa_waitUntil u) (xa_queue u) (xa_slotWish u) (xa_slotLine u) (xa_position u) (xa_mode u) (xa_panicOf u) (xa_noteCount u) (xa_noteFunction u) (xa_noteValues u) (xa_variables u) n x1
def cx_readBySections_95 (post : Int32 → Prop) (J6 : Int32 → Int32 → Prop) (x1 : Int32) (x2 : Int32) (x3 : Int32) (x4 : Int32) (u : SX) : Prop := wX_readBySections_95 post J6 x1 x2 x3 x4 (xa_lineCount u) (xa_functionCount u) (xa_foundLine u) (xa_state u) (xa_time u) (xa_endingPanic u) (xa_outputCount u) (xa_channelCount u) (xa_goroutineCount u) (xa_waitsBegun u) (xa_running u) (xa_queueLength u) (xa_kinds u) (xa_argA u) (xa_argB u) (xa_argC u) (xa_blockOf u) (xa_endOf u) (xa_elseOf u) (xa_functionLine u) (xa_surelySet u) (xa_outputs u) (xa_capacity u) (xa_fill u) (xa_closed u) (xa_held u) (xa_status u) (xa_depth u) (xa_waitOrder u) (xa_waitUntil u) (xa_queue u) (xa_slotWish u) (xa_slotLine u) (xa_position u) (xa_mode u) (xa_panicOf u) (xa_noteCount u) (xa_noteFunction u) (xa_noteValues u) (xa_variables u)
def cx_readBySections_69 (post : Int32 → Prop) (J6 : Int32 → Int32 → Prop) (x1 : Int32) (x2 : Int32) (x3 : Int32) (x4 : Int32) (x5 : Int32) (u : SX) : Prop := wX_readBySections_69 post J6 x1 x2 x3 x4 x5 (xa_lineCount u) (xa_functionCount u) (xa_foundLine u) (xa_state u) (xa_time u) (xa_endingPanic u) (xa_outputCount u) (xa_channelCount u) (xa_goroutineCount u) (xa_waitsBegun u) (xa_running u) (xa_queueLength u) (xa_kinds u) (xa_argA u) (xa_argB u) (xa_argC u) (xa_blockOf u) (xa_endOf u) (xa_elseOf u) (xa_functionLine u) (xa_surelySet u) (xa_outputs u) (xa_capacity u) (xa_fill u) (xa_closed u) (xa_held u) (xa_status u) (xa_depth u) (xa_waitOrder u) (xa_waitUntil u) (xa_queue u) (xa_slotWish u) (xa_slotLine u) (xa_position u) (xa_mode u) (xa_panicOf u) (xa_noteCount u) (xa_noteFunction u) (xa_noteValues u) (xa_variables u)
def cx_readBySections_6 (post : Int32 → Prop) (x1 : Int32) (u : SX) (n : Nat) (x2 : Int32) (x3 : Int32) : Prop := wX_readBySections_6 post x1 (xa_lineCount u) (xa_functionCount u) (xa_foundLine u) (xa_state u) (xa_time u) (xa_endingPanic u) (xa_outputCount u) (xa_channelCount u) (xa_goroutineCount u) (xa_waitsBegun u) (xa_running u) (xa_queueLength u) (xa_kinds u) (xa_argA u) (xa_argB u) (xa_argC u) (xa_blockOf u) (xa_endOf u) (xa_elseOf u) (xa_functionLine u) (xa_surelySet u) (xa_outputs u) (xa_capacity u) (xa_fill u) (xa_closed u) (xa_held u) (xa_status u) (xa_depth u) (xa_waitOrder u) (xa_waitUntil u) (xa_queue u) (xa_slotWish u) (xa_slotLine u) (xa_position u) (xa_mode u) (xa_panicOf u) (xa_noteCount u) (xa_noteFunction u) (xa_noteValues u) (xa_variables u) n x2 x3
def cx_variablesRead_220 (post : Int32 → Prop) (x1 : Int32) (x3 : Int32) (x4 : Int32) (u : SX) : Prop := wX_variablesRead_220 post x1 x3 x4 (xa_lineCount u) (xa_functionCount u) (xa_foundLine u) (xa_state u) (xa_time u) (xa_endingPanic u) (xa_outputCount u) (xa_channelCount u) (xa_goroutineCount u) (xa_waitsBegun u) (xa_running u) (xa_queueLength u) (xa_kinds u) (xa_argA u) (xa_argB u) (xa_argC u) (xa_blockOf u) (xa_endOf u) (xa_elseOf u) (xa_functionLine u) (xa_surelySet u) (xa_outputs u) (xa_capacity u) (xa_fill u) (xa_closed u) (xa_held u) (xa_status u) (xa_depth u) (xa_waitOrder u) (xa_waitUntil u) (xa_queue u) (xa_slotWish u) (xa_slotLine u) (xa_position u) (xa_mode u) (xa_panicOf u) (xa_noteCount u) (xa_noteFunction u) (xa_noteValues u) (xa_variables u)
def cx_variablesRead_200 (post : Int32 → Prop) (x4 : Int32) (x5 : Int32) (z0 : Int32) (u : SX) : Prop := wX_variablesRead_200 post x4 x5 z0 (xa_lineCount u) (xa_functionCount u) (xa_foundLine u) (xa_state u) (xa_time u) (xa_endingPanic u) (xa_outputCount u) (xa_channelCount u) (xa_goroutineCount u) (xa_waitsBegun u) (xa_running u) (xa_queueLength u) (xa_kinds u) (xa_argA u) (xa_argB u) (xa_argC u) (xa_blockOf u) (xa_endOf u) (xa_elseOf u) (xa_functionLine u) (xa_surelySet u) (xa_outputs u) (xa_capacity u) (xa_fill u) (xa_closed u) (xa_held u) (xa_status u) (xa_depth u) (xa_waitOrder u) (xa_waitUntil u) (xa_queue u) (xa_slotWish u) (xa_slotLine u) (xa_position u) (xa_mode u) (xa_panicOf u) (xa_noteCount u) (xa_noteFunction u) (xa_noteValues u) (xa_variables u)
def cx_variablesRead_172 (post : Int32 → Prop) (x1 : Int32) (x3 : Int32) (x4 : Int32) (u : SX) : Prop := wX_variablesRead_172 post x1 x3 x4 (xa_lineCount u) (xa_functionCount u) (xa_foundLine u) (xa_state u) (xa_time u) (xa_endingPanic u) (xa_outputCount u) (xa_channelCount u) (xa_goroutineCount u) (xa_waitsBegun u) (xa_running u) (xa_queueLength u) (xa_kinds u) (xa_argA u) (xa_argB u) (xa_argC u) (xa_blockOf u) (xa_endOf u) (xa_elseOf u) (xa_functionLine u) (xa_surelySet u) (xa_outputs u) (xa_capacity u) (xa_fill u) (xa_closed u) (xa_held u) (xa_status u) (xa_depth u) (xa_waitOrder u) (xa_waitUntil u) (xa_queue u) (xa_slotWish u) (xa_slotLine u) (xa_position u) (xa_mode u) (xa_panicOf u) (xa_noteCount u) (xa_noteFunction u) (xa_noteValues u) (xa_variables u)
def cx_variablesSet_19 (post : Int32 → Prop) (x1 : Int32) (u : SX) : Prop := wX_variablesSet_19 post x1 (xa_lineCount u) (xa_functionCount u) (xa_foundLine u) (xa_state u) (xa_time u) (xa_endingPanic u) (xa_outputCount u) (xa_channelCount u) (xa_goroutineCount u) (xa_waitsBegun u) (xa_running u) (xa_queueLength u) (xa_kinds u) (xa_argA u) (xa_argB u) (xa_argC u) (xa_blockOf u) (xa_endOf u) (xa_elseOf u) (xa_functionLine u) (xa_surelySet u) (xa_outputs u) (xa_capacity u) (xa_fill u) (xa_closed u) (xa_held u) (xa_status u) (xa_depth u) (xa_waitOrder u) (xa_waitUntil u) (xa_queue u) (xa_slotWish u) (xa_slotLine u) (xa_position u) (xa_mode u) (xa_panicOf u) (xa_noteCount u) (xa_noteFunction u) (xa_noteValues u) (xa_variables u)
def cx_reach_37 (post : SX → Prop) (x2 : Int32) (x3 : Int32) (u : SX) : Prop := wX_reach_37 post x2 x3 (xa_lineCount u) (xa_functionCount u) (xa_foundLine u) (xa_state u) (xa_time u) (xa_endingPanic u) (xa_outputCount u) (xa_channelCount u) (xa_goroutineCount u) (xa_waitsBegun u) (xa_running u) (xa_queueLength u) (xa_kinds u) (xa_argA u) (xa_argB u) (xa_argC u) (xa_blockOf u) (xa_endOf u) (xa_elseOf u) (xa_functionLine u) (xa_surelySet u) (xa_outputs u) (xa_capacity u) (xa_fill u) (xa_closed u) (xa_held u) (xa_status u) (xa_depth u) (xa_waitOrder u) (xa_waitUntil u) (xa_queue u) (xa_slotWish u) (xa_slotLine u) (xa_position u) (xa_mode u) (xa_panicOf u) (xa_noteCount u) (xa_noteFunction u) (xa_noteValues u) (xa_variables u)
def cx_reach_25 (post : SX → Prop) (x1 : Int32) (x2 : Int32) (u : SX) : Prop := wX_reach_25 post x1 x2 (xa_lineCount u) (xa_functionCount u) (xa_foundLine u) (xa_state u) (xa_time u) (xa_endingPanic u) (xa_outputCount u) (xa_channelCount u) (xa_goroutineCount u) (xa_waitsBegun u) (xa_running u) (xa_queueLength u) (xa_kinds u) (xa_argA u) (xa_argB u) (xa_argC u) (xa_blockOf u) (xa_endOf u) (xa_elseOf u) (xa_functionLine u) (xa_surelySet u) (xa_outputs u) (xa_capacity u) (xa_fill u) (xa_closed u) (xa_held u) (xa_status u) (xa_depth u) (xa_waitOrder u) (xa_waitUntil u) (xa_queue u) (xa_slotWish u) (xa_slotLine u) (xa_position u) (xa_mode u) (xa_panicOf u) (xa_noteCount u) (xa_noteFunction u) (xa_noteValues u) (xa_variables u)
def cx_reachSections_4 (post : SX → Prop) (x1 : Int32) (x2 : Int32) (n : Nat) (x3 : Int32) (u : SX) : Prop := wX_reachSections_4 post x1 x2 (xa_lineCount u) (xa_functionCount u) (xa_foundLine u) (xa_state u) (xa_time u) (xa_endingPanic u) (xa_outputCount u) (xa_channelCount u) (xa_goroutineCount u) (xa_waitsBegun u) (xa_running u) (xa_queueLength u) n x3 (xa_kinds u) (xa_argA u) (xa_argB u) (xa_argC u) (xa_blockOf u) (xa_endOf u) (xa_elseOf u) (xa_functionLine u) (xa_surelySet u) (xa_outputs u) (xa_capacity u) (xa_fill u) (xa_closed u) (xa_held u) (xa_status u) (xa_depth u) (xa_waitOrder u) (xa_waitUntil u) (xa_queue u) (xa_slotWish u) (xa_slotLine u) (xa_position u) (xa_mode u) (xa_panicOf u) (xa_noteCount u) (xa_noteFunction u) (xa_noteValues u) (xa_variables u)
def cx_passOn_246 (post : SX → Prop) (x1 : Int32) (x2 : Int32) (u : SX) : Prop := wX_passOn_246 post x1 x2 (xa_lineCount u) (xa_functionCount u) (xa_foundLine u) (xa_state u) (xa_time u) (xa_endingPanic u) (xa_outputCount u) (xa_channelCount u) (xa_goroutineCount u) (xa_waitsBegun u) (xa_running u) (xa_queueLength u) (xa_kinds u) (xa_argA u) (xa_argB u) (xa_argC u) (xa_blockOf u) (xa_endOf u) (xa_elseOf u) (xa_functionLine u) (xa_surelySet u) (xa_outputs u) (xa_capacity u) (xa_fill u) (xa_closed u) (xa_held u) (xa_status u) (xa_depth u) (xa_waitOrder u) (xa_waitUntil u) (xa_queue u) (xa_slotWish u) (xa_slotLine u) (xa_position u) (xa_mode u) (xa_panicOf u) (xa_noteCount u) (xa_noteFunction u) (xa_noteValues u) (xa_variables u)
def cx_passOn_126 (post : SX → Prop) (x1 : Int32) (x2 : Int32) (u : SX) : Prop := wX_passOn_126 post x1 x2 (xa_lineCount u) (xa_functionCount u) (xa_foundLine u) (xa_state u) (xa_time u) (xa_endingPanic u) (xa_outputCount u) (xa_channelCount u) (xa_goroutineCount u) (xa_waitsBegun u) (xa_running u) (xa_queueLength u) (xa_kinds u) (xa_argA u) (xa_argB u) (xa_argC u) (xa_blockOf u) (xa_endOf u) (xa_elseOf u) (xa_functionLine u) (xa_surelySet u) (xa_outputs u) (xa_capacity u) (xa_fill u) (xa_closed u) (xa_held u) (xa_status u) (xa_depth u) (xa_waitOrder u) (xa_waitUntil u) (xa_queue u) (xa_slotWish u) (xa_slotLine u) (xa_position u) (xa_mode u) (xa_panicOf u) (xa_noteCount u) (xa_noteFunction u) (xa_noteValues u) (xa_variables u)
def cx_passOn_170 (post : SX → Prop) (x2 : Int32) (z0 : Int32) (u : SX) : Prop := wX_passOn_170 post x2 z0 (xa_lineCount u) (xa_functionCount u) (xa_foundLine u) (xa_state u) (xa_time u) (xa_endingPanic u) (xa_outputCount u) (xa_channelCount u) (xa_goroutineCount u) (xa_waitsBegun u) (xa_running u) (xa_queueLength u) (xa_kinds u) (xa_argA u) (xa_argB u) (xa_argC u) (xa_blockOf u) (xa_endOf u) (xa_elseOf u) (xa_functionLine u) (xa_surelySet u) (xa_outputs u) (xa_capacity u) (xa_fill u) (xa_closed u) (xa_held u) (xa_status u) (xa_depth u) (xa_waitOrder u) (xa_waitUntil u) (xa_queue u) (xa_slotWish u) (xa_slotLine u) (xa_position u) (xa_mode u) (xa_panicOf u) (xa_noteCount u) (xa_noteFunction u) (xa_noteValues u) (xa_variables u)
def cx_unsetFault_59 (post : Int32 → SX → Prop) (J26 : Int32 → SX → Prop) (x1 : Int32) (u : SX) : Prop := wX_unsetFault_59 post (fun y_x1 y_f_lineCount y_f_functionCount y_f_foundLine y_f_state y_f_time y_f_endingPanic y_f_outputCount y_f_channelCount y_f_goroutineCount y_f_waitsBegun y_f_running y_f_queueLength y_a_kinds y_a_argA y_a_argB y_a_argC y_a_blockOf y_a_endOf y_a_elseOf y_a_functionLine y_a_surelySet y_a_outputs y_a_capacity y_a_fill y_a_closed y_a_held y_a_status y_a_depth y_a_waitOrder y_a_waitUntil y_a_queue y_a_slotWish y_a_slotLine y_a_position y_a_mode y_a_panicOf y_a_noteCount y_a_noteFunction y_a_noteValues y_a_variables => J26 y_x1 (y_f_lineCount, y_f_functionCount, y_f_foundLine, y_f_state, y_f_time, y_f_endingPanic, y_f_outputCount, y_f_channelCount, y_f_goroutineCount, y_f_waitsBegun, y_f_running, y_f_queueLength, y_a_kinds, y_a_argA, y_a_argB, y_a_argC, y_a_blockOf, y_a_endOf, y_a_elseOf, y_a_functionLine, y_a_surelySet, y_a_outputs, y_a_capacity, y_a_fill, y_a_closed, y_a_held, y_a_status, y_a_depth, y_a_waitOrder, y_a_waitUntil, y_a_queue, y_a_slotWish, y_a_slotLine, y_a_position, y_a_mode, y_a_panicOf, y_a_noteCount, y_a_noteFunction, y_a_noteValues, y_a_variables)) x1 (xa_lineCount u) (xa_functionCount u) (xa_foundLine u) (xa_state u) (xa_time u) (xa_endingPanic u) (xa_outputCount u) (xa_channelCount u) (xa_goroutineCount u) (xa_waitsBegun u) (xa_running u) (xa_queueLength u) (xa_kinds u) (xa_argA u) (xa_argB u) (xa_argC u) (xa_blockOf u) (xa_endOf u) (xa_elseOf u) (xa_functionLine u) (xa_surelySet u) (xa_outputs u) (xa_capacity u) (xa_fill u) (xa_closed u) (xa_held u) (xa_status u) (xa_depth u) (xa_waitOrder u) (xa_waitUntil u) (xa_queue u) (xa_slotWish u) (xa_slotLine u) (xa_position u) (xa_mode u) (xa_panicOf u) (xa_noteCount u) (xa_noteFunction u) (xa_noteValues u) (xa_variables u)
def cx_unsetFault_26 (post : Int32 → SX → Prop) (n : Nat) (x1 : Int32) (u : SX) : Prop := wX_unsetFault_26 post n x1 (xa_lineCount u) (xa_functionCount u) (xa_foundLine u) (xa_state u) (xa_time u) (xa_endingPanic u) (xa_outputCount u) (xa_channelCount u) (xa_goroutineCount u) (xa_waitsBegun u) (xa_running u) (xa_queueLength u) (xa_kinds u) (xa_argA u) (xa_argB u) (xa_argC u) (xa_blockOf u) (xa_endOf u) (xa_elseOf u) (xa_functionLine u) (xa_surelySet u) (xa_outputs u) (xa_capacity u) (xa_fill u) (xa_closed u) (xa_held u) (xa_status u) (xa_depth u) (xa_waitOrder u) (xa_waitUntil u) (xa_queue u) (xa_slotWish u) (xa_slotLine u) (xa_position u) (xa_mode u) (xa_panicOf u) (xa_noteCount u) (xa_noteFunction u) (xa_noteValues u) (xa_variables u)
def cx_unsetFault_2 (post : Int32 → SX → Prop) (n : Nat) (x1 : Int32) (u : SX) : Prop := wX_unsetFault_2 post (xa_lineCount u) (xa_functionCount u) (xa_foundLine u) (xa_state u) (xa_time u) (xa_endingPanic u) (xa_outputCount u) (xa_channelCount u) (xa_goroutineCount u) (xa_waitsBegun u) (xa_running u) (xa_queueLength u) n x1 (xa_kinds u) (xa_argA u) (xa_argB u) (xa_argC u) (xa_blockOf u) (xa_endOf u) (xa_elseOf u) (xa_functionLine u) (xa_surelySet u) (xa_outputs u) (xa_capacity u) (xa_fill u) (xa_closed u) (xa_held u) (xa_status u) (xa_depth u) (xa_waitOrder u) (xa_waitUntil u) (xa_queue u) (xa_slotWish u) (xa_slotLine u) (xa_position u) (xa_mode u) (xa_panicOf u) (xa_noteCount u) (xa_noteFunction u) (xa_noteValues u) (xa_variables u)
def cx_forgetWait_11 (post : SX → Prop) (x1 : Int32) (n : Nat) (x2 : Int32) (u : SX) : Prop := wX_forgetWait_11 post x1 (xa_lineCount u) (xa_functionCount u) (xa_foundLine u) (xa_state u) (xa_time u) (xa_endingPanic u) (xa_outputCount u) (xa_channelCount u) (xa_goroutineCount u) (xa_waitsBegun u) (xa_running u) (xa_queueLength u) n x2 (xa_kinds u) (xa_argA u) (xa_argB u) (xa_argC u) (xa_blockOf u) (xa_endOf u) (xa_elseOf u) (xa_functionLine u) (xa_surelySet u) (xa_outputs u) (xa_capacity u) (xa_fill u) (xa_closed u) (xa_held u) (xa_status u) (xa_depth u) (xa_waitOrder u) (xa_waitUntil u) (xa_queue u) (xa_slotWish u) (xa_slotLine u) (xa_position u) (xa_mode u) (xa_panicOf u) (xa_noteCount u) (xa_noteFunction u) (xa_noteValues u) (xa_variables u)
def cx_enter_110 (post : SX → Prop) (x4 : Int32) (x5 : Int32) (x6 : Int32) (u : SX) : Prop := wX_enter_110 post x4 x5 x6 (xa_lineCount u) (xa_functionCount u) (xa_foundLine u) (xa_state u) (xa_time u) (xa_endingPanic u) (xa_outputCount u) (xa_channelCount u) (xa_goroutineCount u) (xa_waitsBegun u) (xa_running u) (xa_queueLength u) (xa_kinds u) (xa_argA u) (xa_argB u) (xa_argC u) (xa_blockOf u) (xa_endOf u) (xa_elseOf u) (xa_functionLine u) (xa_surelySet u) (xa_outputs u) (xa_capacity u) (xa_fill u) (xa_closed u) (xa_held u) (xa_status u) (xa_depth u) (xa_waitOrder u) (xa_waitUntil u) (xa_queue u) (xa_slotWish u) (xa_slotLine u) (xa_position u) (xa_mode u) (xa_panicOf u) (xa_noteCount u) (xa_noteFunction u) (xa_noteValues u) (xa_variables u)
def cx_enter_54 (post : SX → Prop) (x2 : Int32) (x3 : Int32) (x4 : Int32) (x5 : Int32) (n : Nat) (x6 : Int32) (u : SX) : Prop := wX_enter_54 post x2 x3 x4 x5 (xa_lineCount u) (xa_functionCount u) (xa_foundLine u) (xa_state u) (xa_time u) (xa_endingPanic u) (xa_outputCount u) (xa_channelCount u) (xa_goroutineCount u) (xa_waitsBegun u) (xa_running u) (xa_queueLength u) n x6 (xa_kinds u) (xa_argA u) (xa_argB u) (xa_argC u) (xa_blockOf u) (xa_endOf u) (xa_elseOf u) (xa_functionLine u) (xa_surelySet u) (xa_outputs u) (xa_capacity u) (xa_fill u) (xa_closed u) (xa_held u) (xa_status u) (xa_depth u) (xa_waitOrder u) (xa_waitUntil u) (xa_queue u) (xa_slotWish u) (xa_slotLine u) (xa_position u) (xa_mode u) (xa_panicOf u) (xa_noteCount u) (xa_noteFunction u) (xa_noteValues u) (xa_variables u)
def cx_longestWaiting_4 (post : Int32 → Prop) (x1 : Int32) (u : SX) (n : Nat) (x2 : Int32) (x3 : Int32) : Prop := wX_longestWaiting_4 post x1 (xa_lineCount u) (xa_functionCount u) (xa_foundLine u) (xa_state u) (xa_time u) (xa_endingPanic u) (xa_outputCount u) (xa_channelCount u) (xa_goroutineCount u) (xa_waitsBegun u) (xa_running u) (xa_queueLength u) (xa_kinds u) (xa_argA u) (xa_argB u) (xa_argC u) (xa_blockOf u) (xa_endOf u) (xa_elseOf u) (xa_functionLine u) (xa_surelySet u) (xa_outputs u) (xa_capacity u) (xa_fill u) (xa_closed u) (xa_held u) (xa_status u) (xa_depth u) (xa_waitOrder u) (xa_waitUntil u) (xa_queue u) (xa_slotWish u) (xa_slotLine u) (xa_position u) (xa_mode u) (xa_panicOf u) (xa_noteCount u) (xa_noteFunction u) (xa_noteValues u) (xa_variables u) n x2 x3
def cx_takeOldest_28 (post : Int32 → SX → Prop) (x1 : Int32) (x2 : Int32) (x3 : Int32) (n : Nat) (x4 : Int32) (u : SX) : Prop := wX_takeOldest_28 post x1 x2 x3 (xa_lineCount u) (xa_functionCount u) (xa_foundLine u) (xa_state u) (xa_time u) (xa_endingPanic u) (xa_outputCount u) (xa_channelCount u) (xa_goroutineCount u) (xa_waitsBegun u) (xa_running u) (xa_queueLength u) n x4 (xa_kinds u) (xa_argA u) (xa_argB u) (xa_argC u) (xa_blockOf u) (xa_endOf u) (xa_elseOf u) (xa_functionLine u) (xa_surelySet u) (xa_outputs u) (xa_capacity u) (xa_fill u) (xa_closed u) (xa_held u) (xa_status u) (xa_depth u) (xa_waitOrder u) (xa_waitUntil u) (xa_queue u) (xa_slotWish u) (xa_slotLine u) (xa_position u) (xa_mode u) (xa_panicOf u) (xa_noteCount u) (xa_noteFunction u) (xa_noteValues u) (xa_variables u)
def cx_alternativeOf_4 (post : Int32 → Prop) (x1 : Int32) (u : SX) (n : Nat) (x2 : Int32) : Prop := wX_alternativeOf_4 post x1 (xa_lineCount u) (xa_functionCount u) (xa_foundLine u) (xa_state u) (xa_time u) (xa_endingPanic u) (xa_outputCount u) (xa_channelCount u) (xa_goroutineCount u) (xa_waitsBegun u) (xa_running u) (xa_queueLength u) (xa_kinds u) (xa_argA u) (xa_argB u) (xa_argC u) (xa_blockOf u) (xa_endOf u) (xa_elseOf u) (xa_functionLine u) (xa_surelySet u) (xa_outputs u) (xa_capacity u) (xa_fill u) (xa_closed u) (xa_held u) (xa_status u) (xa_depth u) (xa_waitOrder u) (xa_waitUntil u) (xa_queue u) (xa_slotWish u) (xa_slotLine u) (xa_position u) (xa_mode u) (xa_panicOf u) (xa_noteCount u) (xa_noteFunction u) (xa_noteValues u) (xa_variables u) n x2
def cx_offerCases_83 (post : SX → Prop) (J11 : Int32 → Int32 → SX → Prop) (x1 : Int32) (x2 : Int32) (x3 : Int32) (x4 : Int32) (x5 : Int32) (x7 : Int32) (z0 : Int32) (u : SX) : Prop := wX_offerCases_83 post (fun y_x4 y_x5 y_a_kinds y_a_argA y_a_argB y_a_argC y_a_blockOf y_a_endOf y_a_elseOf y_a_functionLine y_a_surelySet y_a_outputs y_a_capacity y_a_fill y_a_closed y_a_held y_a_status y_a_depth y_a_waitOrder y_a_waitUntil y_a_queue y_a_slotWish y_a_slotLine y_a_position y_a_mode y_a_panicOf y_a_noteCount y_a_noteFunction y_a_noteValues y_a_variables => J11 y_x4 y_x5 (xa_lineCount u, xa_functionCount u, xa_foundLine u, xa_state u, xa_time u, xa_endingPanic u, xa_outputCount u, xa_channelCount u, xa_goroutineCount u, xa_waitsBegun u, xa_running u, xa_queueLength u, y_a_kinds, y_a_argA, y_a_argB, y_a_argC, y_a_blockOf, y_a_endOf, y_a_elseOf, y_a_functionLine, y_a_surelySet, y_a_outputs, y_a_capacity, y_a_fill, y_a_closed, y_a_held, y_a_status, y_a_depth, y_a_waitOrder, y_a_waitUntil, y_a_queue, y_a_slotWish, y_a_slotLine, y_a_position, y_a_mode, y_a_panicOf, y_a_noteCount, y_a_noteFunction, y_a_noteValues, y_a_variables)) x1 x2 x3 x4 x5 x7 z0 (xa_lineCount u) (xa_functionCount u) (xa_foundLine u) (xa_state u) (xa_time u) (xa_endingPanic u) (xa_outputCount u) (xa_channelCount u) (xa_goroutineCount u) (xa_waitsBegun u) (xa_running u) (xa_queueLength u) (xa_kinds u) (xa_argA u) (xa_argB u) (xa_argC u) (xa_blockOf u) (xa_endOf u) (xa_elseOf u) (xa_functionLine u) (xa_surelySet u) (xa_outputs u) (xa_capacity u) (xa_fill u) (xa_closed u) (xa_held u) (xa_status u) (xa_depth u) (xa_waitOrder u) (xa_waitUntil u) (xa_queue u) (xa_slotWish u) (xa_slotLine u) (xa_position u) (xa_mode u) (xa_panicOf u) (xa_noteCount u) (xa_noteFunction u) (xa_noteValues u) (xa_variables u)
def cx_offerCases_65 (post : SX → Prop) (J11 : Int32 → Int32 → SX → Prop) (x1 : Int32) (x2 : Int32) (x3 : Int32) (x4 : Int32) (x5 : Int32) (x6 : Int32) (z0 : Int32) (z1 : Int32) (u : SX) : Prop := wX_offerCases_65 post (fun y_x4 y_x5 y_a_kinds y_a_argA y_a_argB y_a_argC y_a_blockOf y_a_endOf y_a_elseOf y_a_functionLine y_a_surelySet y_a_outputs y_a_capacity y_a_fill y_a_closed y_a_held y_a_status y_a_depth y_a_waitOrder y_a_waitUntil y_a_queue y_a_slotWish y_a_slotLine y_a_position y_a_mode y_a_panicOf y_a_noteCount y_a_noteFunction y_a_noteValues y_a_variables => J11 y_x4 y_x5 (xa_lineCount u, xa_functionCount u, xa_foundLine u, xa_state u, xa_time u, xa_endingPanic u, xa_outputCount u, xa_channelCount u, xa_goroutineCount u, xa_waitsBegun u, xa_running u, xa_queueLength u, y_a_kinds, y_a_argA, y_a_argB, y_a_argC, y_a_blockOf, y_a_endOf, y_a_elseOf, y_a_functionLine, y_a_surelySet, y_a_outputs, y_a_capacity, y_a_fill, y_a_closed, y_a_held, y_a_status, y_a_depth, y_a_waitOrder, y_a_waitUntil, y_a_queue, y_a_slotWish, y_a_slotLine, y_a_position, y_a_mode, y_a_panicOf, y_a_noteCount, y_a_noteFunction, y_a_noteValues, y_a_variables)) x1 x2 x3 x4 x5 x6 z0 z1 (xa_lineCount u) (xa_functionCount u) (xa_foundLine u) (xa_state u) (xa_time u) (xa_endingPanic u) (xa_outputCount u) (xa_channelCount u) (xa_goroutineCount u) (xa_waitsBegun u) (xa_running u) (xa_queueLength u) (xa_kinds u) (xa_argA u) (xa_argB u) (xa_argC u) (xa_blockOf u) (xa_endOf u) (xa_elseOf u) (xa_functionLine u) (xa_surelySet u) (xa_outputs u) (xa_capacity u) (xa_fill u) (xa_closed u) (xa_held u) (xa_status u) (xa_depth u) (xa_waitOrder u) (xa_waitUntil u) (xa_queue u) (xa_slotWish u) (xa_slotLine u) (xa_position u) (xa_mode u) (xa_panicOf u) (xa_noteCount u) (xa_noteFunction u) (xa_noteValues u) (xa_variables u)
def cx_offerCases_41 (post : SX → Prop) (J11 : Int32 → Int32 → SX → Prop) (x1 : Int32) (x2 : Int32) (x3 : Int32) (x4 : Int32) (x5 : Int32) (x6 : Int32) (u : SX) : Prop := wX_offerCases_41 post (fun y_x4 y_x5 y_a_kinds y_a_argA y_a_argB y_a_argC y_a_blockOf y_a_endOf y_a_elseOf y_a_functionLine y_a_surelySet y_a_outputs y_a_capacity y_a_fill y_a_closed y_a_held y_a_status y_a_depth y_a_waitOrder y_a_waitUntil y_a_queue y_a_slotWish y_a_slotLine y_a_position y_a_mode y_a_panicOf y_a_noteCount y_a_noteFunction y_a_noteValues y_a_variables => J11 y_x4 y_x5 (xa_lineCount u, xa_functionCount u, xa_foundLine u, xa_state u, xa_time u, xa_endingPanic u, xa_outputCount u, xa_channelCount u, xa_goroutineCount u, xa_waitsBegun u, xa_running u, xa_queueLength u, y_a_kinds, y_a_argA, y_a_argB, y_a_argC, y_a_blockOf, y_a_endOf, y_a_elseOf, y_a_functionLine, y_a_surelySet, y_a_outputs, y_a_capacity, y_a_fill, y_a_closed, y_a_held, y_a_status, y_a_depth, y_a_waitOrder, y_a_waitUntil, y_a_queue, y_a_slotWish, y_a_slotLine, y_a_position, y_a_mode, y_a_panicOf, y_a_noteCount, y_a_noteFunction, y_a_noteValues, y_a_variables)) x1 x2 x3 x4 x5 x6 (xa_lineCount u) (xa_functionCount u) (xa_foundLine u) (xa_state u) (xa_time u) (xa_endingPanic u) (xa_outputCount u) (xa_channelCount u) (xa_goroutineCount u) (xa_waitsBegun u) (xa_running u) (xa_queueLength u) (xa_kinds u) (xa_argA u) (xa_argB u) (xa_argC u) (xa_blockOf u) (xa_endOf u) (xa_elseOf u) (xa_functionLine u) (xa_surelySet u) (xa_outputs u) (xa_capacity u) (xa_fill u) (xa_closed u) (xa_held u) (xa_status u) (xa_depth u) (xa_waitOrder u) (xa_waitUntil u) (xa_queue u) (xa_slotWish u) (xa_slotLine u) (xa_position u) (xa_mode u) (xa_panicOf u) (xa_noteCount u) (xa_noteFunction u) (xa_noteValues u) (xa_variables u)
def cx_offerCases_11 (post : SX → Prop) (x1 : Int32) (x2 : Int32) (x3 : Int32) (n : Nat) (x4 : Int32) (x5 : Int32) (u : SX) : Prop := wX_offerCases_11 post x1 x2 x3 (xa_lineCount u) (xa_functionCount u) (xa_foundLine u) (xa_state u) (xa_time u) (xa_endingPanic u) (xa_outputCount u) (xa_channelCount u) (xa_goroutineCount u) (xa_waitsBegun u) (xa_running u) (xa_queueLength u) n x4 x5 (xa_kinds u) (xa_argA u) (xa_argB u) (xa_argC u) (xa_blockOf u) (xa_endOf u) (xa_elseOf u) (xa_functionLine u) (xa_surelySet u) (xa_outputs u) (xa_capacity u) (xa_fill u) (xa_closed u) (xa_held u) (xa_status u) (xa_depth u) (xa_waitOrder u) (xa_waitUntil u) (xa_queue u) (xa_slotWish u) (xa_slotLine u) (xa_position u) (xa_mode u) (xa_panicOf u) (xa_noteCount u) (xa_noteFunction u) (xa_noteValues u) (xa_variables u)
def cx_enterAlternativeOrWait_89 (post : SX → Prop) (x1 : Int32) (x2 : Int32) (x3 : Int32) (x5 : Int64) (u : SX) : Prop := wX_enterAlternativeOrWait_89 post x1 x2 x3 x5 (xa_lineCount u) (xa_functionCount u) (xa_foundLine u) (xa_state u) (xa_time u) (xa_endingPanic u) (xa_outputCount u) (xa_channelCount u) (xa_goroutineCount u) (xa_waitsBegun u) (xa_running u) (xa_queueLength u) (xa_kinds u) (xa_argA u) (xa_argB u) (xa_argC u) (xa_blockOf u) (xa_endOf u) (xa_elseOf u) (xa_functionLine u) (xa_surelySet u) (xa_outputs u) (xa_capacity u) (xa_fill u) (xa_closed u) (xa_held u) (xa_status u) (xa_depth u) (xa_waitOrder u) (xa_waitUntil u) (xa_queue u) (xa_slotWish u) (xa_slotLine u) (xa_position u) (xa_mode u) (xa_panicOf u) (xa_noteCount u) (xa_noteFunction u) (xa_noteValues u) (xa_variables u)
def cx_enterAlternativeOrWait_61 (post : SX → Prop) (x1 : Int32) (x2 : Int32) (x3 : Int32) (x4 : Int32) (z0 : Int32) (u : SX) : Prop := wX_enterAlternativeOrWait_61 post x1 x2 x3 x4 z0 (xa_lineCount u) (xa_functionCount u) (xa_foundLine u) (xa_state u) (xa_time u) (xa_endingPanic u) (xa_outputCount u) (xa_channelCount u) (xa_goroutineCount u) (xa_waitsBegun u) (xa_running u) (xa_queueLength u) (xa_kinds u) (xa_argA u) (xa_argB u) (xa_argC u) (xa_blockOf u) (xa_endOf u) (xa_elseOf u) (xa_functionLine u) (xa_surelySet u) (xa_outputs u) (xa_capacity u) (xa_fill u) (xa_closed u) (xa_held u) (xa_status u) (xa_depth u) (xa_waitOrder u) (xa_waitUntil u) (xa_queue u) (xa_slotWish u) (xa_slotLine u) (xa_position u) (xa_mode u) (xa_panicOf u) (xa_noteCount u) (xa_noteFunction u) (xa_noteValues u) (xa_variables u)
def cx_enterAlternativeOrWait_20 (post : SX → Prop) (x1 : Int32) (x2 : Int32) (x3 : Int32) (z0 : Int32) (u : SX) : Prop := wX_enterAlternativeOrWait_20 post x1 x2 x3 z0 (xa_lineCount u) (xa_functionCount u) (xa_foundLine u) (xa_state u) (xa_time u) (xa_endingPanic u) (xa_outputCount u) (xa_channelCount u) (xa_goroutineCount u) (xa_waitsBegun u) (xa_running u) (xa_queueLength u) (xa_kinds u) (xa_argA u) (xa_argB u) (xa_argC u) (xa_blockOf u) (xa_endOf u) (xa_elseOf u) (xa_functionLine u) (xa_surelySet u) (xa_outputs u) (xa_capacity u) (xa_fill u) (xa_closed u) (xa_held u) (xa_status u) (xa_depth u) (xa_waitOrder u) (xa_waitUntil u) (xa_queue u) (xa_slotWish u) (xa_slotLine u) (xa_position u) (xa_mode u) (xa_panicOf u) (xa_noteCount u) (xa_noteFunction u) (xa_noteValues u) (xa_variables u)
def cx_communicate_75 (post : SX → Prop) (J25 : Int32 → SX → Prop) (x1 : Int32) (x2 : Int32) (x3 : Int32) (x4 : Int32) (x5 : Int32) (u : SX) : Prop := wX_communicate_75 post (fun y_x4 y_f_lineCount y_f_functionCount y_f_foundLine y_f_state y_f_time y_f_endingPanic y_f_outputCount y_f_channelCount y_f_goroutineCount y_f_waitsBegun y_f_running y_f_queueLength y_a_kinds y_a_argA y_a_argB y_a_argC y_a_blockOf y_a_endOf y_a_elseOf y_a_functionLine y_a_surelySet y_a_outputs y_a_capacity y_a_fill y_a_closed y_a_held y_a_status y_a_depth y_a_waitOrder y_a_waitUntil y_a_queue y_a_slotWish y_a_slotLine y_a_position y_a_mode y_a_panicOf y_a_noteCount y_a_noteFunction y_a_noteValues y_a_variables => J25 y_x4 (y_f_lineCount, y_f_functionCount, y_f_foundLine, y_f_state, y_f_time, y_f_endingPanic, y_f_outputCount, y_f_channelCount, y_f_goroutineCount, y_f_waitsBegun, y_f_running, y_f_queueLength, y_a_kinds, y_a_argA, y_a_argB, y_a_argC, y_a_blockOf, y_a_endOf, y_a_elseOf, y_a_functionLine, y_a_surelySet, y_a_outputs, y_a_capacity, y_a_fill, y_a_closed, y_a_held, y_a_status, y_a_depth, y_a_waitOrder, y_a_waitUntil, y_a_queue, y_a_slotWish, y_a_slotLine, y_a_position, y_a_mode, y_a_panicOf, y_a_noteCount, y_a_noteFunction, y_a_noteValues, y_a_variables)) x1 x2 x3 x4 x5 (xa_lineCount u) (xa_functionCount u) (xa_foundLine u) (xa_state u) (xa_time u) (xa_endingPanic u) (xa_outputCount u) (xa_channelCount u) (xa_goroutineCount u) (xa_waitsBegun u) (xa_running u) (xa_queueLength u) (xa_kinds u) (xa_argA u) (xa_argB u) (xa_argC u) (xa_blockOf u) (xa_endOf u) (xa_elseOf u) (xa_functionLine u) (xa_surelySet u) (xa_outputs u) (xa_capacity u) (xa_fill u) (xa_closed u) (xa_held u) (xa_status u) (xa_depth u) (xa_waitOrder u) (xa_waitUntil u) (xa_queue u) (xa_slotWish u) (xa_slotLine u) (xa_position u) (xa_mode u) (xa_panicOf u) (xa_noteCount u) (xa_noteFunction u) (xa_noteValues u) (xa_variables u)
def cx_communicate_25 (post : SX → Prop) (x1 : Int32) (x2 : Int32) (x3 : Int32) (n : Nat) (x4 : Int32) (u : SX) : Prop := wX_communicate_25 post x1 x2 x3 n x4 (xa_lineCount u) (xa_functionCount u) (xa_foundLine u) (xa_state u) (xa_time u) (xa_endingPanic u) (xa_outputCount u) (xa_channelCount u) (xa_goroutineCount u) (xa_waitsBegun u) (xa_running u) (xa_queueLength u) (xa_kinds u) (xa_argA u) (xa_argB u) (xa_argC u) (xa_blockOf u) (xa_endOf u) (xa_elseOf u) (xa_functionLine u) (xa_surelySet u) (xa_outputs u) (xa_capacity u) (xa_fill u) (xa_closed u) (xa_held u) (xa_status u) (xa_depth u) (xa_waitOrder u) (xa_waitUntil u) (xa_queue u) (xa_slotWish u) (xa_slotLine u) (xa_position u) (xa_mode u) (xa_panicOf u) (xa_noteCount u) (xa_noteFunction u) (xa_noteValues u) (xa_variables u)
def cx_closeChannel_19 (post : SX → Prop) (x1 : Int32) (u : SX) : Prop := wX_closeChannel_19 post x1 (xa_lineCount u) (xa_functionCount u) (xa_foundLine u) (xa_state u) (xa_time u) (xa_endingPanic u) (xa_outputCount u) (xa_channelCount u) (xa_goroutineCount u) (xa_waitsBegun u) (xa_running u) (xa_queueLength u) (xa_kinds u) (xa_argA u) (xa_argB u) (xa_argC u) (xa_blockOf u) (xa_endOf u) (xa_elseOf u) (xa_functionLine u) (xa_surelySet u) (xa_outputs u) (xa_capacity u) (xa_fill u) (xa_closed u) (xa_held u) (xa_status u) (xa_depth u) (xa_waitOrder u) (xa_waitUntil u) (xa_queue u) (xa_slotWish u) (xa_slotLine u) (xa_position u) (xa_mode u) (xa_panicOf u) (xa_noteCount u) (xa_noteFunction u) (xa_noteValues u) (xa_variables u)
def cx_closeChannel_99 (post : SX → Prop) (x2 : Int32) (n : Nat) (x3 : Int32) (u : SX) : Prop := wX_closeChannel_99 post x2 n x3 (xa_lineCount u) (xa_functionCount u) (xa_foundLine u) (xa_state u) (xa_time u) (xa_endingPanic u) (xa_outputCount u) (xa_channelCount u) (xa_goroutineCount u) (xa_waitsBegun u) (xa_running u) (xa_queueLength u) (xa_kinds u) (xa_argA u) (xa_argB u) (xa_argC u) (xa_blockOf u) (xa_endOf u) (xa_elseOf u) (xa_functionLine u) (xa_surelySet u) (xa_outputs u) (xa_capacity u) (xa_fill u) (xa_closed u) (xa_held u) (xa_status u) (xa_depth u) (xa_waitOrder u) (xa_waitUntil u) (xa_queue u) (xa_slotWish u) (xa_slotLine u) (xa_position u) (xa_mode u) (xa_panicOf u) (xa_noteCount u) (xa_noteFunction u) (xa_noteValues u) (xa_variables u)
def cx_closeChannel_37 (post : SX → Prop) (x2 : Int32) (n : Nat) (x3 : Int32) (u : SX) : Prop := wX_closeChannel_37 post x2 n x3 (xa_lineCount u) (xa_functionCount u) (xa_foundLine u) (xa_state u) (xa_time u) (xa_endingPanic u) (xa_outputCount u) (xa_channelCount u) (xa_goroutineCount u) (xa_waitsBegun u) (xa_running u) (xa_queueLength u) (xa_kinds u) (xa_argA u) (xa_argB u) (xa_argC u) (xa_blockOf u) (xa_endOf u) (xa_elseOf u) (xa_functionLine u) (xa_surelySet u) (xa_outputs u) (xa_capacity u) (xa_fill u) (xa_closed u) (xa_held u) (xa_status u) (xa_depth u) (xa_waitOrder u) (xa_waitUntil u) (xa_queue u) (xa_slotWish u) (xa_slotLine u) (xa_position u) (xa_mode u) (xa_panicOf u) (xa_noteCount u) (xa_noteFunction u) (xa_noteValues u) (xa_variables u)
def cx_recover_45 (post : SX → Prop) (x1 : Int32) (x2 : Int32) (x3 : Int32) (u : SX) : Prop := wX_recover_45 post x1 x2 x3 (xa_lineCount u) (xa_functionCount u) (xa_foundLine u) (xa_state u) (xa_time u) (xa_endingPanic u) (xa_outputCount u) (xa_channelCount u) (xa_goroutineCount u) (xa_waitsBegun u) (xa_running u) (xa_queueLength u) (xa_kinds u) (xa_argA u) (xa_argB u) (xa_argC u) (xa_blockOf u) (xa_endOf u) (xa_elseOf u) (xa_functionLine u) (xa_surelySet u) (xa_outputs u) (xa_capacity u) (xa_fill u) (xa_closed u) (xa_held u) (xa_status u) (xa_depth u) (xa_waitOrder u) (xa_waitUntil u) (xa_queue u) (xa_slotWish u) (xa_slotLine u) (xa_position u) (xa_mode u) (xa_panicOf u) (xa_noteCount u) (xa_noteFunction u) (xa_noteValues u) (xa_variables u)
def cx_compute_129 (post : SX → Prop) (x1 : Int32) (x2 : Int32) (x5 : Int32) (u : SX) : Prop := wX_compute_129 post x1 x2 x5 (xa_lineCount u) (xa_functionCount u) (xa_foundLine u) (xa_state u) (xa_time u) (xa_endingPanic u) (xa_outputCount u) (xa_channelCount u) (xa_goroutineCount u) (xa_waitsBegun u) (xa_running u) (xa_queueLength u) (xa_kinds u) (xa_argA u) (xa_argB u) (xa_argC u) (xa_blockOf u) (xa_endOf u) (xa_elseOf u) (xa_functionLine u) (xa_surelySet u) (xa_outputs u) (xa_capacity u) (xa_fill u) (xa_closed u) (xa_held u) (xa_status u) (xa_depth u) (xa_waitOrder u) (xa_waitUntil u) (xa_queue u) (xa_slotWish u) (xa_slotLine u) (xa_position u) (xa_mode u) (xa_panicOf u) (xa_noteCount u) (xa_noteFunction u) (xa_noteValues u) (xa_variables u)
def cx_compute_108 (post : SX → Prop) (x1 : Int32) (x2 : Int32) (z0 : Int32) (u : SX) : Prop := wX_compute_108 post x1 x2 z0 (xa_lineCount u) (xa_functionCount u) (xa_foundLine u) (xa_state u) (xa_time u) (xa_endingPanic u) (xa_outputCount u) (xa_channelCount u) (xa_goroutineCount u) (xa_waitsBegun u) (xa_running u) (xa_queueLength u) (xa_kinds u) (xa_argA u) (xa_argB u) (xa_argC u) (xa_blockOf u) (xa_endOf u) (xa_elseOf u) (xa_functionLine u) (xa_surelySet u) (xa_outputs u) (xa_capacity u) (xa_fill u) (xa_closed u) (xa_held u) (xa_status u) (xa_depth u) (xa_waitOrder u) (xa_waitUntil u) (xa_queue u) (xa_slotWish u) (xa_slotLine u) (xa_position u) (xa_mode u) (xa_panicOf u) (xa_noteCount u) (xa_noteFunction u) (xa_noteValues u) (xa_variables u)
def cx_compute_124 (post : SX → Prop) (x1 : Int32) (x2 : Int32) (z0 : Int32) (u : SX) : Prop := wX_compute_124 post x1 x2 z0 (xa_lineCount u) (xa_functionCount u) (xa_foundLine u) (xa_state u) (xa_time u) (xa_endingPanic u) (xa_outputCount u) (xa_channelCount u) (xa_goroutineCount u) (xa_waitsBegun u) (xa_running u) (xa_queueLength u) (xa_kinds u) (xa_argA u) (xa_argB u) (xa_argC u) (xa_blockOf u) (xa_endOf u) (xa_elseOf u) (xa_functionLine u) (xa_surelySet u) (xa_outputs u) (xa_capacity u) (xa_fill u) (xa_closed u) (xa_held u) (xa_status u) (xa_depth u) (xa_waitOrder u) (xa_waitUntil u) (xa_queue u) (xa_slotWish u) (xa_slotLine u) (xa_position u) (xa_mode u) (xa_panicOf u) (xa_noteCount u) (xa_noteFunction u) (xa_noteValues u) (xa_variables u)
def cx_execute_406 (post : SX → Prop) (x1 : Int32) (x2 : Int32) (x4 : Int32) (x5 : Int32) (u : SX) : Prop := wX_execute_406 post x1 x2 x4 x5 (xa_lineCount u) (xa_functionCount u) (xa_foundLine u) (xa_state u) (xa_time u) (xa_endingPanic u) (xa_outputCount u) (xa_channelCount u) (xa_goroutineCount u) (xa_waitsBegun u) (xa_running u) (xa_queueLength u) (xa_kinds u) (xa_argA u) (xa_argB u) (xa_argC u) (xa_blockOf u) (xa_endOf u) (xa_elseOf u) (xa_functionLine u) (xa_surelySet u) (xa_outputs u) (xa_capacity u) (xa_fill u) (xa_closed u) (xa_held u) (xa_status u) (xa_depth u) (xa_waitOrder u) (xa_waitUntil u) (xa_queue u) (xa_slotWish u) (xa_slotLine u) (xa_position u) (xa_mode u) (xa_panicOf u) (xa_noteCount u) (xa_noteFunction u) (xa_noteValues u) (xa_variables u)
def cx_execute_280 (post : SX → Prop) (x1 : Int32) (x2 : Int32) (u : SX) : Prop := wX_execute_280 post x1 x2 (xa_lineCount u) (xa_functionCount u) (xa_foundLine u) (xa_state u) (xa_time u) (xa_endingPanic u) (xa_outputCount u) (xa_channelCount u) (xa_goroutineCount u) (xa_waitsBegun u) (xa_running u) (xa_queueLength u) (xa_kinds u) (xa_argA u) (xa_argB u) (xa_argC u) (xa_blockOf u) (xa_endOf u) (xa_elseOf u) (xa_functionLine u) (xa_surelySet u) (xa_outputs u) (xa_capacity u) (xa_fill u) (xa_closed u) (xa_held u) (xa_status u) (xa_depth u) (xa_waitOrder u) (xa_waitUntil u) (xa_queue u) (xa_slotWish u) (xa_slotLine u) (xa_position u) (xa_mode u) (xa_panicOf u) (xa_noteCount u) (xa_noteFunction u) (xa_noteValues u) (xa_variables u)
def cx_longestWaitingUntil_5 (post : Int32 → Prop) (x1 : Int64) (u : SX) (n : Nat) (x3 : Int32) (x4 : Int32) : Prop := wX_longestWaitingUntil_5 post x1 (xa_lineCount u) (xa_functionCount u) (xa_foundLine u) (xa_state u) (xa_time u) (xa_endingPanic u) (xa_outputCount u) (xa_channelCount u) (xa_goroutineCount u) (xa_waitsBegun u) (xa_running u) (xa_queueLength u) (xa_kinds u) (xa_argA u) (xa_argB u) (xa_argC u) (xa_blockOf u) (xa_endOf u) (xa_elseOf u) (xa_functionLine u) (xa_surelySet u) (xa_outputs u) (xa_capacity u) (xa_fill u) (xa_closed u) (xa_held u) (xa_status u) (xa_depth u) (xa_waitOrder u) (xa_waitUntil u) (xa_queue u) (xa_slotWish u) (xa_slotLine u) (xa_position u) (xa_mode u) (xa_panicOf u) (xa_noteCount u) (xa_noteFunction u) (xa_noteValues u) (xa_variables u) n x3 x4
def cx_passTime_127 (post : SX → Prop) (J75 : Int32 → SX → Prop) (x1 : Int64) (x3 : Int32) (x4 : Int32) (x5 : Int32) (u : SX) : Prop := wX_passTime_127 post (fun y_x3 y_f_lineCount y_f_functionCount y_f_foundLine y_f_state y_f_time y_f_endingPanic y_f_outputCount y_f_channelCount y_f_goroutineCount y_f_waitsBegun y_f_running y_f_queueLength y_a_kinds y_a_argA y_a_argB y_a_argC y_a_blockOf y_a_endOf y_a_elseOf y_a_functionLine y_a_surelySet y_a_outputs y_a_capacity y_a_fill y_a_closed y_a_held y_a_status y_a_depth y_a_waitOrder y_a_waitUntil y_a_queue y_a_slotWish y_a_slotLine y_a_position y_a_mode y_a_panicOf y_a_noteCount y_a_noteFunction y_a_noteValues y_a_variables => J75 y_x3 (y_f_lineCount, y_f_functionCount, y_f_foundLine, y_f_state, y_f_time, y_f_endingPanic, y_f_outputCount, y_f_channelCount, y_f_goroutineCount, y_f_waitsBegun, y_f_running, y_f_queueLength, y_a_kinds, y_a_argA, y_a_argB, y_a_argC, y_a_blockOf, y_a_endOf, y_a_elseOf, y_a_functionLine, y_a_surelySet, y_a_outputs, y_a_capacity, y_a_fill, y_a_closed, y_a_held, y_a_status, y_a_depth, y_a_waitOrder, y_a_waitUntil, y_a_queue, y_a_slotWish, y_a_slotLine, y_a_position, y_a_mode, y_a_panicOf, y_a_noteCount, y_a_noteFunction, y_a_noteValues, y_a_variables)) x1 x3 x4 x5 (xa_lineCount u) (xa_functionCount u) (xa_foundLine u) (xa_state u) (xa_time u) (xa_endingPanic u) (xa_outputCount u) (xa_channelCount u) (xa_goroutineCount u) (xa_waitsBegun u) (xa_running u) (xa_queueLength u) (xa_kinds u) (xa_argA u) (xa_argB u) (xa_argC u) (xa_blockOf u) (xa_endOf u) (xa_elseOf u) (xa_functionLine u) (xa_surelySet u) (xa_outputs u) (xa_capacity u) (xa_fill u) (xa_closed u) (xa_held u) (xa_status u) (xa_depth u) (xa_waitOrder u) (xa_waitUntil u) (xa_queue u) (xa_slotWish u) (xa_slotLine u) (xa_position u) (xa_mode u) (xa_panicOf u) (xa_noteCount u) (xa_noteFunction u) (xa_noteValues u) (xa_variables u)
def cx_passTime_75 (post : SX → Prop) (x1 : Int64) (n : Nat) (x3 : Int32) (u : SX) : Prop := wX_passTime_75 post x1 n x3 (xa_lineCount u) (xa_functionCount u) (xa_foundLine u) (xa_state u) (xa_time u) (xa_endingPanic u) (xa_outputCount u) (xa_channelCount u) (xa_goroutineCount u) (xa_waitsBegun u) (xa_running u) (xa_queueLength u) (xa_kinds u) (xa_argA u) (xa_argB u) (xa_argC u) (xa_blockOf u) (xa_endOf u) (xa_elseOf u) (xa_functionLine u) (xa_surelySet u) (xa_outputs u) (xa_capacity u) (xa_fill u) (xa_closed u) (xa_held u) (xa_status u) (xa_depth u) (xa_waitOrder u) (xa_waitUntil u) (xa_queue u) (xa_slotWish u) (xa_slotLine u) (xa_position u) (xa_mode u) (xa_panicOf u) (xa_noteCount u) (xa_noteFunction u) (xa_noteValues u) (xa_variables u)
def cx_passTime_6 (post : SX → Prop) (u : SX) (n : Nat) (x1 : Int64) (x3 : Int32) : Prop := wX_passTime_6 post (xa_lineCount u) (xa_functionCount u) (xa_foundLine u) (xa_state u) (xa_time u) (xa_endingPanic u) (xa_outputCount u) (xa_channelCount u) (xa_goroutineCount u) (xa_waitsBegun u) (xa_running u) (xa_queueLength u) (xa_kinds u) (xa_argA u) (xa_argB u) (xa_argC u) (xa_blockOf u) (xa_endOf u) (xa_elseOf u) (xa_functionLine u) (xa_surelySet u) (xa_outputs u) (xa_capacity u) (xa_fill u) (xa_closed u) (xa_held u) (xa_status u) (xa_depth u) (xa_waitOrder u) (xa_waitUntil u) (xa_queue u) (xa_slotWish u) (xa_slotLine u) (xa_position u) (xa_mode u) (xa_panicOf u) (xa_noteCount u) (xa_noteFunction u) (xa_noteValues u) (xa_variables u) n x1 x3
def cx_dequeue_19 (post : Int32 → SX → Prop) (x1 : Int32) (n : Nat) (x2 : Int32) (u : SX) : Prop := wX_dequeue_19 post x1 (xa_lineCount u) (xa_functionCount u) (xa_foundLine u) (xa_state u) (xa_time u) (xa_endingPanic u) (xa_outputCount u) (xa_channelCount u) (xa_goroutineCount u) (xa_waitsBegun u) (xa_running u) (xa_queueLength u) n x2 (xa_kinds u) (xa_argA u) (xa_argB u) (xa_argC u) (xa_blockOf u) (xa_endOf u) (xa_elseOf u) (xa_functionLine u) (xa_surelySet u) (xa_outputs u) (xa_capacity u) (xa_fill u) (xa_closed u) (xa_held u) (xa_status u) (xa_depth u) (xa_waitOrder u) (xa_waitUntil u) (xa_queue u) (xa_slotWish u) (xa_slotLine u) (xa_position u) (xa_mode u) (xa_panicOf u) (xa_noteCount u) (xa_noteFunction u) (xa_noteValues u) (xa_variables u)
def cx_runNext_11 (post : SX → Prop) (u : SX) : Prop := wX_runNext_11 post (xa_lineCount u) (xa_functionCount u) (xa_foundLine u) (xa_state u) (xa_time u) (xa_endingPanic u) (xa_outputCount u) (xa_channelCount u) (xa_goroutineCount u) (xa_waitsBegun u) (xa_running u) (xa_queueLength u) (xa_kinds u) (xa_argA u) (xa_argB u) (xa_argC u) (xa_blockOf u) (xa_endOf u) (xa_elseOf u) (xa_functionLine u) (xa_surelySet u) (xa_outputs u) (xa_capacity u) (xa_fill u) (xa_closed u) (xa_held u) (xa_status u) (xa_depth u) (xa_waitOrder u) (xa_waitUntil u) (xa_queue u) (xa_slotWish u) (xa_slotLine u) (xa_position u) (xa_mode u) (xa_panicOf u) (xa_noteCount u) (xa_noteFunction u) (xa_noteValues u) (xa_variables u)
def cx_movedOn_30 (post : Int32 → SX → Prop) (x1 : Int32) (x2 : Int32) (u : SX) : Prop := wX_movedOn_30 post x1 x2 (xa_lineCount u) (xa_functionCount u) (xa_foundLine u) (xa_state u) (xa_time u) (xa_endingPanic u) (xa_outputCount u) (xa_channelCount u) (xa_goroutineCount u) (xa_waitsBegun u) (xa_running u) (xa_queueLength u) (xa_kinds u) (xa_argA u) (xa_argB u) (xa_argC u) (xa_blockOf u) (xa_endOf u) (xa_elseOf u) (xa_functionLine u) (xa_surelySet u) (xa_outputs u) (xa_capacity u) (xa_fill u) (xa_closed u) (xa_held u) (xa_status u) (xa_depth u) (xa_waitOrder u) (xa_waitUntil u) (xa_queue u) (xa_slotWish u) (xa_slotLine u) (xa_position u) (xa_mode u) (xa_panicOf u) (xa_noteCount u) (xa_noteFunction u) (xa_noteValues u) (xa_variables u)
def cx_settle_2 (post : SX → Prop) (n : Nat) (x1 : Int32) (u : SX) : Prop := wX_settle_2 post n x1 (xa_lineCount u) (xa_functionCount u) (xa_foundLine u) (xa_state u) (xa_time u) (xa_endingPanic u) (xa_outputCount u) (xa_channelCount u) (xa_goroutineCount u) (xa_waitsBegun u) (xa_running u) (xa_queueLength u) (xa_kinds u) (xa_argA u) (xa_argB u) (xa_argC u) (xa_blockOf u) (xa_endOf u) (xa_elseOf u) (xa_functionLine u) (xa_surelySet u) (xa_outputs u) (xa_capacity u) (xa_fill u) (xa_closed u) (xa_held u) (xa_status u) (xa_depth u) (xa_waitOrder u) (xa_waitUntil u) (xa_queue u) (xa_slotWish u) (xa_slotLine u) (xa_position u) (xa_mode u) (xa_panicOf u) (xa_noteCount u) (xa_noteFunction u) (xa_noteValues u) (xa_variables u)
def cx_run_19 (post : Int32 → SX → Prop) (x1 : Int32) (n : Nat) (x2 : Int32) (u : SX) : Prop := wX_run_19 post x1 n x2 (xa_lineCount u) (xa_functionCount u) (xa_foundLine u) (xa_state u) (xa_time u) (xa_endingPanic u) (xa_outputCount u) (xa_channelCount u) (xa_goroutineCount u) (xa_waitsBegun u) (xa_running u) (xa_queueLength u) (xa_kinds u) (xa_argA u) (xa_argB u) (xa_argC u) (xa_blockOf u) (xa_endOf u) (xa_elseOf u) (xa_functionLine u) (xa_surelySet u) (xa_outputs u) (xa_capacity u) (xa_fill u) (xa_closed u) (xa_held u) (xa_status u) (xa_depth u) (xa_waitOrder u) (xa_waitUntil u) (xa_queue u) (xa_slotWish u) (xa_slotLine u) (xa_position u) (xa_mode u) (xa_panicOf u) (xa_noteCount u) (xa_noteFunction u) (xa_noteValues u) (xa_variables u)
def cx_panicking_14 (post : Int32 → Prop) (x1 : Int32) (u : SX) (n : Nat) (x2 : Int32) (x3 : Int32) : Prop := wX_panicking_14 post x1 (xa_lineCount u) (xa_functionCount u) (xa_foundLine u) (xa_state u) (xa_time u) (xa_endingPanic u) (xa_outputCount u) (xa_channelCount u) (xa_goroutineCount u) (xa_waitsBegun u) (xa_running u) (xa_queueLength u) (xa_kinds u) (xa_argA u) (xa_argB u) (xa_argC u) (xa_blockOf u) (xa_endOf u) (xa_elseOf u) (xa_functionLine u) (xa_surelySet u) (xa_outputs u) (xa_capacity u) (xa_fill u) (xa_closed u) (xa_held u) (xa_status u) (xa_depth u) (xa_waitOrder u) (xa_waitUntil u) (xa_queue u) (xa_slotWish u) (xa_slotLine u) (xa_position u) (xa_mode u) (xa_panicOf u) (xa_noteCount u) (xa_noteFunction u) (xa_noteValues u) (xa_variables u) n x2 x3
def cy_idle_7 (post : SY → Prop) (n : Nat) (x1 : Int32) (u : SY) : Prop := wY_idle_7 post (ya_lines u) (ya_bad u) (ya_state u) (ya_queued u) (ya_started u) (ya_now u) (ya_clock u) (ya_turn u) (ya_off u) (ya_made u) (ya_printed u) (ya_panicValue u) n x1 (ya_kind u) (ya_opA u) (ya_opB u) (ya_opC u) (ya_open u) (ya_seen u) (ya_unset u) (ya_status u) (ya_depth u) (ya_since u) (ya_resume u) (ya_shocked u) (ya_queue u) (ya_until u) (ya_channels u) (ya_pc u) (ya_vars u) (ya_noted u) (ya_noteOf u) (ya_noteB u) (ya_noteC u) (ya_asNote u) (ya_panics u) (ya_panicWith u) (ya_capacity u) (ya_held u) (ya_closed u) (ya_values u) (ya_out u)
def cy_line_114 (post : Int32 → SY → Prop) (x1 : Int32) (x2 : Int32) (x3 : Int32) (x4 : Int32) (u : SY) : Prop := wY_line_114 post x1 x2 x3 x4 (ya_lines u) (ya_bad u) (ya_state u) (ya_queued u) (ya_started u) (ya_now u) (ya_clock u) (ya_turn u) (ya_off u) (ya_made u) (ya_printed u) (ya_panicValue u) (ya_kind u) (ya_opA u) (ya_opB u) (ya_opC u) (ya_open u) (ya_seen u) (ya_unset u) (ya_status u) (ya_depth u) (ya_since u) (ya_resume u) (ya_shocked u) (ya_queue u) (ya_until u) (ya_channels u) (ya_pc u) (ya_vars u) (ya_noted u) (ya_noteOf u) (ya_noteB u) (ya_noteC u) (ya_asNote u) (ya_panics u) (ya_panicWith u) (ya_capacity u) (ya_held u) (ya_closed u) (ya_values u) (ya_out u)
def cy_line_101 (post : Int32 → SY → Prop) (x1 : Int32) (x2 : Int32) (x3 : Int32) (x4 : Int32) (u : SY) : Prop := wY_line_101 post x1 x2 x3 x4 (ya_lines u) (ya_bad u) (ya_state u) (ya_queued u) (ya_started u) (ya_now u) (ya_clock u) (ya_turn u) (ya_off u) (ya_made u) (ya_printed u) (ya_panicValue u) (ya_kind u) (ya_opA u) (ya_opB u) (ya_opC u) (ya_open u) (ya_seen u) (ya_unset u) (ya_status u) (ya_depth u) (ya_since u) (ya_resume u) (ya_shocked u) (ya_queue u) (ya_until u) (ya_channels u) (ya_pc u) (ya_vars u) (ya_noted u) (ya_noteOf u) (ya_noteB u) (ya_noteC u) (ya_asNote u) (ya_panics u) (ya_panicWith u) (ya_capacity u) (ya_held u) (ya_closed u) (ya_values u) (ya_out u)
def cy_line_89 (post : Int32 → SY → Prop) (x1 : Int32) (x2 : Int32) (x3 : Int32) (x4 : Int32) (u : SY) : Prop := wY_line_89 post x1 x2 x3 x4 (ya_lines u) (ya_bad u) (ya_state u) (ya_queued u) (ya_started u) (ya_now u) (ya_clock u) (ya_turn u) (ya_off u) (ya_made u) (ya_printed u) (ya_panicValue u) (ya_kind u) (ya_opA u) (ya_opB u) (ya_opC u) (ya_open u) (ya_seen u) (ya_unset u) (ya_status u) (ya_depth u) (ya_since u) (ya_resume u) (ya_shocked u) (ya_queue u) (ya_until u) (ya_channels u) (ya_pc u) (ya_vars u) (ya_noted u) (ya_noteOf u) (ya_noteB u) (ya_noteC u) (ya_asNote u) (ya_panics u) (ya_panicWith u) (ya_capacity u) (ya_held u) (ya_closed u) (ya_values u) (ya_out u)
def cy_line_73 (post : Int32 → SY → Prop) (x1 : Int32) (x2 : Int32) (x3 : Int32) (x4 : Int32) (u : SY) : Prop := wY_line_73 post x1 x2 x3 x4 (ya_lines u) (ya_bad u) (ya_state u) (ya_queued u) (ya_started u) (ya_now u) (ya_clock u) (ya_turn u) (ya_off u) (ya_made u) (ya_printed u) (ya_panicValue u) (ya_kind u) (ya_opA u) (ya_opB u) (ya_opC u) (ya_open u) (ya_seen u) (ya_unset u) (ya_status u) (ya_depth u) (ya_since u) (ya_resume u) (ya_shocked u) (ya_queue u) (ya_until u) (ya_channels u) (ya_pc u) (ya_vars u) (ya_noted u) (ya_noteOf u) (ya_noteB u) (ya_noteC u) (ya_asNote u) (ya_panics u) (ya_panicWith u) (ya_capacity u) (ya_held u) (ya_closed u) (ya_values u) (ya_out u)
def cy_line_49 (post : Int32 → SY → Prop) (x1 : Int32) (x2 : Int32) (x3 : Int32) (x4 : Int32) (u : SY) : Prop := wY_line_49 post x1 x2 x3 x4 (ya_lines u) (ya_bad u) (ya_state u) (ya_queued u) (ya_started u) (ya_now u) (ya_clock u) (ya_turn u) (ya_off u) (ya_made u) (ya_printed u) (ya_panicValue u) (ya_kind u) (ya_opA u) (ya_opB u) (ya_opC u) (ya_open u) (ya_seen u) (ya_unset u) (ya_status u) (ya_depth u) (ya_since u) (ya_resume u) (ya_shocked u) (ya_queue u) (ya_until u) (ya_channels u) (ya_pc u) (ya_vars u) (ya_noted u) (ya_noteOf u) (ya_noteB u) (ya_noteC u) (ya_asNote u) (ya_panics u) (ya_panicWith u) (ya_capacity u) (ya_held u) (ya_closed u) (ya_values u) (ya_out u)
def cy_line_34 (post : Int32 → SY → Prop) (x1 : Int32) (x2 : Int32) (x3 : Int32) (x4 : Int32) (u : SY) : Prop := wY_line_34 post x1 x2 x3 x4 (ya_lines u) (ya_bad u) (ya_state u) (ya_queued u) (ya_started u) (ya_now u) (ya_clock u) (ya_turn u) (ya_off u) (ya_made u) (ya_printed u) (ya_panicValue u) (ya_kind u) (ya_opA u) (ya_opB u) (ya_opC u) (ya_open u) (ya_seen u) (ya_unset u) (ya_status u) (ya_depth u) (ya_since u) (ya_resume u) (ya_shocked u) (ya_queue u) (ya_until u) (ya_channels u) (ya_pc u) (ya_vars u) (ya_noted u) (ya_noteOf u) (ya_noteB u) (ya_noteC u) (ya_asNote u) (ya_panics u) (ya_panicWith u) (ya_capacity u) (ya_held u) (ya_closed u) (ya_values u) (ya_out u)
def cy_form_312 (post : Int32 → SY → Prop) (J4 : Int32 → Int32 → SY → Prop) (x1 : Int32) (x2 : Int32) (u : SY) : Prop := wY_form_312 post (fun y_x1 y_x2 y_a_kind y_a_opA y_a_opB y_a_opC y_a_open y_a_seen y_a_unset y_a_status y_a_depth y_a_since y_a_resume y_a_shocked y_a_queue y_a_until y_a_channels y_a_pc y_a_vars y_a_noted y_a_noteOf y_a_noteB y_a_noteC y_a_asNote y_a_panics y_a_panicWith y_a_capacity y_a_held y_a_closed y_a_values y_a_out => J4 y_x1 y_x2 (ya_lines u, ya_bad u, ya_state u, ya_queued u, ya_started u, ya_now u, ya_clock u, ya_turn u, ya_off u, ya_made u, ya_printed u, ya_panicValue u, y_a_kind, y_a_opA, y_a_opB, y_a_opC, y_a_open, y_a_seen, y_a_unset, y_a_status, y_a_depth, y_a_since, y_a_resume, y_a_shocked, y_a_queue, y_a_until, y_a_channels, y_a_pc, y_a_vars, y_a_noted, y_a_noteOf, y_a_noteB, y_a_noteC, y_a_asNote, y_a_panics, y_a_panicWith, y_a_capacity, y_a_held, y_a_closed, y_a_values, y_a_out)) x1 x2 (ya_lines u) (ya_bad u) (ya_state u) (ya_queued u) (ya_started u) (ya_now u) (ya_clock u) (ya_turn u) (ya_off u) (ya_made u) (ya_printed u) (ya_panicValue u) (ya_kind u) (ya_opA u) (ya_opB u) (ya_opC u) (ya_open u) (ya_seen u) (ya_unset u) (ya_status u) (ya_depth u) (ya_since u) (ya_resume u) (ya_shocked u) (ya_queue u) (ya_until u) (ya_channels u) (ya_pc u) (ya_vars u) (ya_noted u) (ya_noteOf u) (ya_noteB u) (ya_noteC u) (ya_asNote u) (ya_panics u) (ya_panicWith u) (ya_capacity u) (ya_held u) (ya_closed u) (ya_values u) (ya_out u)
def cy_form_240 (post : Int32 → SY → Prop) (J4 : Int32 → Int32 → SY → Prop) (x1 : Int32) (x2 : Int32) (u : SY) (n : Nat) (x6 : Int32) (x7 : Int32) : Prop := wY_form_240 post (fun y_x1 y_x2 y_a_kind y_a_opA y_a_opB y_a_opC y_a_open y_a_seen y_a_unset y_a_status y_a_depth y_a_since y_a_resume y_a_shocked y_a_queue y_a_until y_a_channels y_a_pc y_a_vars y_a_noted y_a_noteOf y_a_noteB y_a_noteC y_a_asNote y_a_panics y_a_panicWith y_a_capacity y_a_held y_a_closed y_a_values y_a_out => J4 y_x1 y_x2 (ya_lines u, ya_bad u, ya_state u, ya_queued u, ya_started u, ya_now u, ya_clock u, ya_turn u, ya_off u, ya_made u, ya_printed u, ya_panicValue u, y_a_kind, y_a_opA, y_a_opB, y_a_opC, y_a_open, y_a_seen, y_a_unset, y_a_status, y_a_depth, y_a_since, y_a_resume, y_a_shocked, y_a_queue, y_a_until, y_a_channels, y_a_pc, y_a_vars, y_a_noted, y_a_noteOf, y_a_noteB, y_a_noteC, y_a_asNote, y_a_panics, y_a_panicWith, y_a_capacity, y_a_held, y_a_closed, y_a_values, y_a_out)) x1 x2 (ya_lines u) (ya_bad u) (ya_state u) (ya_queued u) (ya_started u) (ya_now u) (ya_clock u) (ya_turn u) (ya_off u) (ya_made u) (ya_printed u) (ya_panicValue u) (ya_kind u) (ya_opA u) (ya_opB u) (ya_opC u) (ya_open u) (ya_seen u) (ya_unset u) (ya_status u) (ya_depth u) (ya_since u) (ya_resume u) (ya_shocked u) (ya_queue u) (ya_until u) (ya_channels u) (ya_pc u) (ya_vars u) (ya_noted u) (ya_noteOf u) (ya_noteB u) (ya_noteC u) (ya_asNote u) (ya_panics u) (ya_panicWith u) (ya_capacity u) (ya_held u) (ya_closed u) (ya_values u) (ya_out u) n x6 x7
def cy_form_180 (post : Int32 → SY → Prop) (J4 : Int32 → Int32 → SY → Prop) (x1 : Int32) (x2 : Int32) (x3 : Int32) (x5 : Int32) (u : SY) : Prop := wY_form_180 post (fun y_x1 y_x2 y_a_kind y_a_opA y_a_opB y_a_opC y_a_open y_a_seen y_a_unset y_a_status y_a_depth y_a_since y_a_resume y_a_shocked y_a_queue y_a_until y_a_channels y_a_pc y_a_vars y_a_noted y_a_noteOf y_a_noteB y_a_noteC y_a_asNote y_a_panics y_a_panicWith y_a_capacity y_a_held y_a_closed y_a_values y_a_out => J4 y_x1 y_x2 (ya_lines u, ya_bad u, ya_state u, ya_queued u, ya_started u, ya_now u, ya_clock u, ya_turn u, ya_off u, ya_made u, ya_printed u, ya_panicValue u, y_a_kind, y_a_opA, y_a_opB, y_a_opC, y_a_open, y_a_seen, y_a_unset, y_a_status, y_a_depth, y_a_since, y_a_resume, y_a_shocked, y_a_queue, y_a_until, y_a_channels, y_a_pc, y_a_vars, y_a_noted, y_a_noteOf, y_a_noteB, y_a_noteC, y_a_asNote, y_a_panics, y_a_panicWith, y_a_capacity, y_a_held, y_a_closed, y_a_values, y_a_out)) x1 x2 x3 x5 (ya_lines u) (ya_bad u) (ya_state u) (ya_queued u) (ya_started u) (ya_now u) (ya_clock u) (ya_turn u) (ya_off u) (ya_made u) (ya_printed u) (ya_panicValue u) (ya_kind u) (ya_opA u) (ya_opB u) (ya_opC u) (ya_open u) (ya_seen u) (ya_unset u) (ya_status u) (ya_depth u) (ya_since u) (ya_resume u) (ya_shocked u) (ya_queue u) (ya_until u) (ya_channels u) (ya_pc u) (ya_vars u) (ya_noted u) (ya_noteOf u) (ya_noteB u) (ya_noteC u) (ya_asNote u) (ya_panics u) (ya_panicWith u) (ya_capacity u) (ya_held u) (ya_closed u) (ya_values u) (ya_out u)
def cy_form_109 (post : Int32 → SY → Prop) (J4 : Int32 → Int32 → SY → Prop) (x1 : Int32) (x2 : Int32) (x3 : Int32) (x4 : Int32) (x5 : Int32) (u : SY) : Prop := wY_form_109 post (fun y_x1 y_x2 y_a_kind y_a_opA y_a_opB y_a_opC y_a_open y_a_seen y_a_unset y_a_status y_a_depth y_a_since y_a_resume y_a_shocked y_a_queue y_a_until y_a_channels y_a_pc y_a_vars y_a_noted y_a_noteOf y_a_noteB y_a_noteC y_a_asNote y_a_panics y_a_panicWith y_a_capacity y_a_held y_a_closed y_a_values y_a_out => J4 y_x1 y_x2 (ya_lines u, ya_bad u, ya_state u, ya_queued u, ya_started u, ya_now u, ya_clock u, ya_turn u, ya_off u, ya_made u, ya_printed u, ya_panicValue u, y_a_kind, y_a_opA, y_a_opB, y_a_opC, y_a_open, y_a_seen, y_a_unset, y_a_status, y_a_depth, y_a_since, y_a_resume, y_a_shocked, y_a_queue, y_a_until, y_a_channels, y_a_pc, y_a_vars, y_a_noted, y_a_noteOf, y_a_noteB, y_a_noteC, y_a_asNote, y_a_panics, y_a_panicWith, y_a_capacity, y_a_held, y_a_closed, y_a_values, y_a_out)) x1 x2 x3 x4 x5 (ya_lines u) (ya_bad u) (ya_state u) (ya_queued u) (ya_started u) (ya_now u) (ya_clock u) (ya_turn u) (ya_off u) (ya_made u) (ya_printed u) (ya_panicValue u) (ya_kind u) (ya_opA u) (ya_opB u) (ya_opC u) (ya_open u) (ya_seen u) (ya_unset u) (ya_status u) (ya_depth u) (ya_since u) (ya_resume u) (ya_shocked u) (ya_queue u) (ya_until u) (ya_channels u) (ya_pc u) (ya_vars u) (ya_noted u) (ya_noteOf u) (ya_noteB u) (ya_noteC u) (ya_asNote u) (ya_panics u) (ya_panicWith u) (ya_capacity u) (ya_held u) (ya_closed u) (ya_values u) (ya_out u)
def cy_form_78 (post : Int32 → SY → Prop) (J4 : Int32 → Int32 → SY → Prop) (x1 : Int32) (x2 : Int32) (x3 : Int32) (x4 : Int32) (x5 : Int32) (z0 : Int32) (z1 : Int32) (u : SY) : Prop := wY_form_78 post (fun y_x1 y_x2 y_a_kind y_a_opA y_a_opB y_a_opC y_a_open y_a_seen y_a_unset y_a_status y_a_depth y_a_since y_a_resume y_a_shocked y_a_queue y_a_until y_a_channels y_a_pc y_a_vars y_a_noted y_a_noteOf y_a_noteB y_a_noteC y_a_asNote y_a_panics y_a_panicWith y_a_capacity y_a_held y_a_closed y_a_values y_a_out => J4 y_x1 y_x2 (ya_lines u, ya_bad u, ya_state u, ya_queued u, ya_started u, ya_now u, ya_clock u, ya_turn u, ya_off u, ya_made u, ya_printed u, ya_panicValue u, y_a_kind, y_a_opA, y_a_opB, y_a_opC, y_a_open, y_a_seen, y_a_unset, y_a_status, y_a_depth, y_a_since, y_a_resume, y_a_shocked, y_a_queue, y_a_until, y_a_channels, y_a_pc, y_a_vars, y_a_noted, y_a_noteOf, y_a_noteB, y_a_noteC, y_a_asNote, y_a_panics, y_a_panicWith, y_a_capacity, y_a_held, y_a_closed, y_a_values, y_a_out)) x1 x2 x3 x4 x5 z0 z1 (ya_lines u) (ya_bad u) (ya_state u) (ya_queued u) (ya_started u) (ya_now u) (ya_clock u) (ya_turn u) (ya_off u) (ya_made u) (ya_printed u) (ya_panicValue u) (ya_kind u) (ya_opA u) (ya_opB u) (ya_opC u) (ya_open u) (ya_seen u) (ya_unset u) (ya_status u) (ya_depth u) (ya_since u) (ya_resume u) (ya_shocked u) (ya_queue u) (ya_until u) (ya_channels u) (ya_pc u) (ya_vars u) (ya_noted u) (ya_noteOf u) (ya_noteB u) (ya_noteC u) (ya_asNote u) (ya_panics u) (ya_panicWith u) (ya_capacity u) (ya_held u) (ya_closed u) (ya_values u) (ya_out u)
def cy_form_69 (post : Int32 → SY → Prop) (J4 : Int32 → Int32 → SY → Prop) (x1 : Int32) (x2 : Int32) (x3 : Int32) (x4 : Int32) (x5 : Int32) (z0 : Int32) (u : SY) : Prop := wY_form_69 post (fun y_x1 y_x2 y_a_kind y_a_opA y_a_opB y_a_opC y_a_open y_a_seen y_a_unset y_a_status y_a_depth y_a_since y_a_resume y_a_shocked y_a_queue y_a_until y_a_channels y_a_pc y_a_vars y_a_noted y_a_noteOf y_a_noteB y_a_noteC y_a_asNote y_a_panics y_a_panicWith y_a_capacity y_a_held y_a_closed y_a_values y_a_out => J4 y_x1 y_x2 (ya_lines u, ya_bad u, ya_state u, ya_queued u, ya_started u, ya_now u, ya_clock u, ya_turn u, ya_off u, ya_made u, ya_printed u, ya_panicValue u, y_a_kind, y_a_opA, y_a_opB, y_a_opC, y_a_open, y_a_seen, y_a_unset, y_a_status, y_a_depth, y_a_since, y_a_resume, y_a_shocked, y_a_queue, y_a_until, y_a_channels, y_a_pc, y_a_vars, y_a_noted, y_a_noteOf, y_a_noteB, y_a_noteC, y_a_asNote, y_a_panics, y_a_panicWith, y_a_capacity, y_a_held, y_a_closed, y_a_values, y_a_out)) x1 x2 x3 x4 x5 z0 (ya_lines u) (ya_bad u) (ya_state u) (ya_queued u) (ya_started u) (ya_now u) (ya_clock u) (ya_turn u) (ya_off u) (ya_made u) (ya_printed u) (ya_panicValue u) (ya_kind u) (ya_opA u) (ya_opB u) (ya_opC u) (ya_open u) (ya_seen u) (ya_unset u) (ya_status u) (ya_depth u) (ya_since u) (ya_resume u) (ya_shocked u) (ya_queue u) (ya_until u) (ya_channels u) (ya_pc u) (ya_vars u) (ya_noted u) (ya_noteOf u) (ya_noteB u) (ya_noteC u) (ya_asNote u) (ya_panics u) (ya_panicWith u) (ya_capacity u) (ya_held u) (ya_closed u) (ya_values u) (ya_out u)
def cy_form_58 (post : Int32 → SY → Prop) (J4 : Int32 → Int32 → SY → Prop) (x1 : Int32) (x2 : Int32) (x3 : Int32) (x4 : Int32) (z0 : Int32) (u : SY) : Prop := wY_form_58 post (fun y_x1 y_x2 y_a_kind y_a_opA y_a_opB y_a_opC y_a_open y_a_seen y_a_unset y_a_status y_a_depth y_a_since y_a_resume y_a_shocked y_a_queue y_a_until y_a_channels y_a_pc y_a_vars y_a_noted y_a_noteOf y_a_noteB y_a_noteC y_a_asNote y_a_panics y_a_panicWith y_a_capacity y_a_held y_a_closed y_a_values y_a_out => J4 y_x1 y_x2 (ya_lines u, ya_bad u, ya_state u, ya_queued u, ya_started u, ya_now u, ya_clock u, ya_turn u, ya_off u, ya_made u, ya_printed u, ya_panicValue u, y_a_kind, y_a_opA, y_a_opB, y_a_opC, y_a_open, y_a_seen, y_a_unset, y_a_status, y_a_depth, y_a_since, y_a_resume, y_a_shocked, y_a_queue, y_a_until, y_a_channels, y_a_pc, y_a_vars, y_a_noted, y_a_noteOf, y_a_noteB, y_a_noteC, y_a_asNote, y_a_panics, y_a_panicWith, y_a_capacity, y_a_held, y_a_closed, y_a_values, y_a_out)) x1 x2 x3 x4 z0 (ya_lines u) (ya_bad u) (ya_state u) (ya_queued u) (ya_started u) (ya_now u) (ya_clock u) (ya_turn u) (ya_off u) (ya_made u) (ya_printed u) (ya_panicValue u) (ya_kind u) (ya_opA u) (ya_opB u) (ya_opC u) (ya_open u) (ya_seen u) (ya_unset u) (ya_status u) (ya_depth u) (ya_since u) (ya_resume u) (ya_shocked u) (ya_queue u) (ya_until u) (ya_channels u) (ya_pc u) (ya_vars u) (ya_noted u) (ya_noteOf u) (ya_noteB u) (ya_noteC u) (ya_asNote u) (ya_panics u) (ya_panicWith u) (ya_capacity u) (ya_held u) (ya_closed u) (ya_values u) (ya_out u)
def cy_form_40 (post : Int32 → SY → Prop) (J4 : Int32 → Int32 → SY → Prop) (x1 : Int32) (x2 : Int32) (x3 : Int32) (z0 : Int32) (u : SY) : Prop := wY_form_40 post (fun y_x1 y_x2 y_a_kind y_a_opA y_a_opB y_a_opC y_a_open y_a_seen y_a_unset y_a_status y_a_depth y_a_since y_a_resume y_a_shocked y_a_queue y_a_until y_a_channels y_a_pc y_a_vars y_a_noted y_a_noteOf y_a_noteB y_a_noteC y_a_asNote y_a_panics y_a_panicWith y_a_capacity y_a_held y_a_closed y_a_values y_a_out => J4 y_x1 y_x2 (ya_lines u, ya_bad u, ya_state u, ya_queued u, ya_started u, ya_now u, ya_clock u, ya_turn u, ya_off u, ya_made u, ya_printed u, ya_panicValue u, y_a_kind, y_a_opA, y_a_opB, y_a_opC, y_a_open, y_a_seen, y_a_unset, y_a_status, y_a_depth, y_a_since, y_a_resume, y_a_shocked, y_a_queue, y_a_until, y_a_channels, y_a_pc, y_a_vars, y_a_noted, y_a_noteOf, y_a_noteB, y_a_noteC, y_a_asNote, y_a_panics, y_a_panicWith, y_a_capacity, y_a_held, y_a_closed, y_a_values, y_a_out)) x1 x2 x3 z0 (ya_lines u) (ya_bad u) (ya_state u) (ya_queued u) (ya_started u) (ya_now u) (ya_clock u) (ya_turn u) (ya_off u) (ya_made u) (ya_printed u) (ya_panicValue u) (ya_kind u) (ya_opA u) (ya_opB u) (ya_opC u) (ya_open u) (ya_seen u) (ya_unset u) (ya_status u) (ya_depth u) (ya_since u) (ya_resume u) (ya_shocked u) (ya_queue u) (ya_until u) (ya_channels u) (ya_pc u) (ya_vars u) (ya_noted u) (ya_noteOf u) (ya_noteB u) (ya_noteC u) (ya_asNote u) (ya_panics u) (ya_panicWith u) (ya_capacity u) (ya_held u) (ya_closed u) (ya_values u) (ya_out u)
def cy_form_4 (post : Int32 → SY → Prop) (n : Nat) (x1 : Int32) (x2 : Int32) (u : SY) : Prop := wY_form_4 post (ya_lines u) (ya_bad u) (ya_state u) (ya_queued u) (ya_started u) (ya_now u) (ya_clock u) (ya_turn u) (ya_off u) (ya_made u) (ya_printed u) (ya_panicValue u) n x1 x2 (ya_kind u) (ya_opA u) (ya_opB u) (ya_opC u) (ya_open u) (ya_seen u) (ya_unset u) (ya_status u) (ya_depth u) (ya_since u) (ya_resume u) (ya_shocked u) (ya_queue u) (ya_until u) (ya_channels u) (ya_pc u) (ya_vars u) (ya_noted u) (ya_noteOf u) (ya_noteB u) (ya_noteC u) (ya_asNote u) (ya_panics u) (ya_panicWith u) (ya_capacity u) (ya_held u) (ya_closed u) (ya_values u) (ya_out u)
def cy_function_4 (post : Int32 → Prop) (u : SY) (n : Nat) (x2 : Int32) (x3 : Int32) : Prop := wY_function_4 post (ya_lines u) (ya_bad u) (ya_state u) (ya_queued u) (ya_started u) (ya_now u) (ya_clock u) (ya_turn u) (ya_off u) (ya_made u) (ya_printed u) (ya_panicValue u) (ya_kind u) (ya_opA u) (ya_opB u) (ya_opC u) (ya_open u) (ya_seen u) (ya_unset u) (ya_status u) (ya_depth u) (ya_since u) (ya_resume u) (ya_shocked u) (ya_queue u) (ya_until u) (ya_channels u) (ya_pc u) (ya_vars u) (ya_noted u) (ya_noteOf u) (ya_noteB u) (ya_noteC u) (ya_asNote u) (ya_panics u) (ya_panicWith u) (ya_capacity u) (ya_held u) (ya_closed u) (ya_values u) (ya_out u) n x2 x3
def cy_callee_2 (post : Int32 → Prop) (u : SY) (n : Nat) (x1 : Int32) : Prop := wY_callee_2 post (ya_lines u) (ya_bad u) (ya_state u) (ya_queued u) (ya_started u) (ya_now u) (ya_clock u) (ya_turn u) (ya_off u) (ya_made u) (ya_printed u) (ya_panicValue u) (ya_kind u) (ya_opA u) (ya_opB u) (ya_opC u) (ya_open u) (ya_seen u) (ya_unset u) (ya_status u) (ya_depth u) (ya_since u) (ya_resume u) (ya_shocked u) (ya_queue u) (ya_until u) (ya_channels u) (ya_pc u) (ya_vars u) (ya_noted u) (ya_noteOf u) (ya_noteB u) (ya_noteC u) (ya_asNote u) (ya_panics u) (ya_panicWith u) (ya_capacity u) (ya_held u) (ya_closed u) (ya_values u) (ya_out u) n x1
def cy_opener_57 (post : Int32 → Prop) (u : SY) (n : Nat) (x3 : Int32) : Prop := wY_opener_57 post (ya_lines u) (ya_bad u) (ya_state u) (ya_queued u) (ya_started u) (ya_now u) (ya_clock u) (ya_turn u) (ya_off u) (ya_made u) (ya_printed u) (ya_panicValue u) (ya_kind u) (ya_opA u) (ya_opB u) (ya_opC u) (ya_open u) (ya_seen u) (ya_unset u) (ya_status u) (ya_depth u) (ya_since u) (ya_resume u) (ya_shocked u) (ya_queue u) (ya_until u) (ya_channels u) (ya_pc u) (ya_vars u) (ya_noted u) (ya_noteOf u) (ya_noteB u) (ya_noteC u) (ya_asNote u) (ya_panics u) (ya_panicWith u) (ya_capacity u) (ya_held u) (ya_closed u) (ya_values u) (ya_out u) n x3
def cy_opener_6 (post : Int32 → Prop) (x1 : Int32) (u : SY) (n : Nat) (x2 : Int32) (x3 : Int32) : Prop := wY_opener_6 post x1 (ya_lines u) (ya_bad u) (ya_state u) (ya_queued u) (ya_started u) (ya_now u) (ya_clock u) (ya_turn u) (ya_off u) (ya_made u) (ya_printed u) (ya_panicValue u) (ya_kind u) (ya_opA u) (ya_opB u) (ya_opC u) (ya_open u) (ya_seen u) (ya_unset u) (ya_status u) (ya_depth u) (ya_since u) (ya_resume u) (ya_shocked u) (ya_queue u) (ya_until u) (ya_channels u) (ya_pc u) (ya_vars u) (ya_noted u) (ya_noteOf u) (ya_noteB u) (ya_noteC u) (ya_asNote u) (ya_panics u) (ya_panicWith u) (ya_capacity u) (ya_held u) (ya_closed u) (ya_values u) (ya_out u) n x2 x3
def cy_endOf_6 (post : Int32 → Prop) (u : SY) (n : Nat) (x2 : Int32) (x3 : Int32) : Prop := wY_endOf_6 post (ya_lines u) (ya_bad u) (ya_state u) (ya_queued u) (ya_started u) (ya_now u) (ya_clock u) (ya_turn u) (ya_off u) (ya_made u) (ya_printed u) (ya_panicValue u) (ya_kind u) (ya_opA u) (ya_opB u) (ya_opC u) (ya_open u) (ya_seen u) (ya_unset u) (ya_status u) (ya_depth u) (ya_since u) (ya_resume u) (ya_shocked u) (ya_queue u) (ya_until u) (ya_channels u) (ya_pc u) (ya_vars u) (ya_noted u) (ya_noteOf u) (ya_noteB u) (ya_noteC u) (ya_asNote u) (ya_panics u) (ya_panicWith u) (ya_capacity u) (ya_held u) (ya_closed u) (ya_values u) (ya_out u) n x2 x3
def cy_settle_40 (post : Int32 → Prop) (J4 : Int32 → Int32 → Prop) (x2 : Int32) (x3 : Int32) (u : SY) : Prop := wY_settle_40 post J4 x2 x3 (ya_lines u) (ya_bad u) (ya_state u) (ya_queued u) (ya_started u) (ya_now u) (ya_clock u) (ya_turn u) (ya_off u) (ya_made u) (ya_printed u) (ya_panicValue u) (ya_kind u) (ya_opA u) (ya_opB u) (ya_opC u) (ya_open u) (ya_seen u) (ya_unset u) (ya_status u) (ya_depth u) (ya_since u) (ya_resume u) (ya_shocked u) (ya_queue u) (ya_until u) (ya_channels u) (ya_pc u) (ya_vars u) (ya_noted u) (ya_noteOf u) (ya_noteB u) (ya_noteC u) (ya_asNote u) (ya_panics u) (ya_panicWith u) (ya_capacity u) (ya_held u) (ya_closed u) (ya_values u) (ya_out u)
def cy_settle_4 (post : Int32 → Prop) (u : SY) (n : Nat) (x2 : Int32) (x3 : Int32) : Prop := wY_settle_4 post (ya_lines u) (ya_bad u) (ya_state u) (ya_queued u) (ya_started u) (ya_now u) (ya_clock u) (ya_turn u) (ya_off u) (ya_made u) (ya_printed u) (ya_panicValue u) (ya_kind u) (ya_opA u) (ya_opB u) (ya_opC u) (ya_open u) (ya_seen u) (ya_unset u) (ya_status u) (ya_depth u) (ya_since u) (ya_resume u) (ya_shocked u) (ya_queue u) (ya_until u) (ya_channels u) (ya_pc u) (ya_vars u) (ya_noted u) (ya_noteOf u) (ya_noteB u) (ya_noteC u) (ya_asNote u) (ya_panics u) (ya_panicWith u) (ya_capacity u) (ya_held u) (ya_closed u) (ya_values u) (ya_out u) n x2 x3
def cy_reach_32 (post : Int32 → SY → Prop) (x3 : Int32) (x4 : Int32) (z0 : Int32) (z1 : Int32) (u : SY) : Prop := wY_reach_32 post x3 x4 z0 z1 (ya_lines u) (ya_bad u) (ya_state u) (ya_queued u) (ya_started u) (ya_now u) (ya_clock u) (ya_turn u) (ya_off u) (ya_made u) (ya_printed u) (ya_panicValue u) (ya_kind u) (ya_opA u) (ya_opB u) (ya_opC u) (ya_open u) (ya_seen u) (ya_unset u) (ya_status u) (ya_depth u) (ya_since u) (ya_resume u) (ya_shocked u) (ya_queue u) (ya_until u) (ya_channels u) (ya_pc u) (ya_vars u) (ya_noted u) (ya_noteOf u) (ya_noteB u) (ya_noteC u) (ya_asNote u) (ya_panics u) (ya_panicWith u) (ya_capacity u) (ya_held u) (ya_closed u) (ya_values u) (ya_out u)
def cy_part_14 (post : Int32 → Prop) (x3 : Int32) (u : SY) (n : Nat) (x4 : Int32) (x5 : Int32) : Prop := wY_part_14 post x3 (ya_lines u) (ya_bad u) (ya_state u) (ya_queued u) (ya_started u) (ya_now u) (ya_clock u) (ya_turn u) (ya_off u) (ya_made u) (ya_printed u) (ya_panicValue u) (ya_kind u) (ya_opA u) (ya_opB u) (ya_opC u) (ya_open u) (ya_seen u) (ya_unset u) (ya_status u) (ya_depth u) (ya_since u) (ya_resume u) (ya_shocked u) (ya_queue u) (ya_until u) (ya_channels u) (ya_pc u) (ya_vars u) (ya_noted u) (ya_noteOf u) (ya_noteB u) (ya_noteC u) (ya_asNote u) (ya_panics u) (ya_panicWith u) (ya_capacity u) (ya_held u) (ya_closed u) (ya_values u) (ya_out u) n x4 x5
def cy_spread_273 (post : Int32 → SY → Prop) (x1 : Int32) (x2 : Int32) (x3 : Int32) (x4 : Int32) (u : SY) : Prop := wY_spread_273 post x1 x2 x3 x4 (ya_lines u) (ya_bad u) (ya_state u) (ya_queued u) (ya_started u) (ya_now u) (ya_clock u) (ya_turn u) (ya_off u) (ya_made u) (ya_printed u) (ya_panicValue u) (ya_kind u) (ya_opA u) (ya_opB u) (ya_opC u) (ya_open u) (ya_seen u) (ya_unset u) (ya_status u) (ya_depth u) (ya_since u) (ya_resume u) (ya_shocked u) (ya_queue u) (ya_until u) (ya_channels u) (ya_pc u) (ya_vars u) (ya_noted u) (ya_noteOf u) (ya_noteB u) (ya_noteC u) (ya_asNote u) (ya_panics u) (ya_panicWith u) (ya_capacity u) (ya_held u) (ya_closed u) (ya_values u) (ya_out u)
def cy_spread_259 (post : Int32 → SY → Prop) (x1 : Int32) (x2 : Int32) (x3 : Int32) (x4 : Int32) (z0 : Int32) (u : SY) : Prop := wY_spread_259 post x1 x2 x3 x4 z0 (ya_lines u) (ya_bad u) (ya_state u) (ya_queued u) (ya_started u) (ya_now u) (ya_clock u) (ya_turn u) (ya_off u) (ya_made u) (ya_printed u) (ya_panicValue u) (ya_kind u) (ya_opA u) (ya_opB u) (ya_opC u) (ya_open u) (ya_seen u) (ya_unset u) (ya_status u) (ya_depth u) (ya_since u) (ya_resume u) (ya_shocked u) (ya_queue u) (ya_until u) (ya_channels u) (ya_pc u) (ya_vars u) (ya_noted u) (ya_noteOf u) (ya_noteB u) (ya_noteC u) (ya_asNote u) (ya_panics u) (ya_panicWith u) (ya_capacity u) (ya_held u) (ya_closed u) (ya_values u) (ya_out u)
def cy_spread_185 (post : Int32 → SY → Prop) (J141 : Int32 → Int32 → SY → Prop) (x1 : Int32) (x3 : Int32) (x4 : Int32) (x5 : Int32) (z0 : Int32) (u : SY) : Prop := wY_spread_185 post (fun y_x4 y_x5 y_f_lines y_f_bad y_f_state y_f_queued y_f_started y_f_now y_f_clock y_f_turn y_f_off y_f_made y_f_printed y_f_panicValue y_a_kind y_a_opA y_a_opB y_a_opC y_a_open y_a_seen y_a_unset y_a_status y_a_depth y_a_since y_a_resume y_a_shocked y_a_queue y_a_until y_a_channels y_a_pc y_a_vars y_a_noted y_a_noteOf y_a_noteB y_a_noteC y_a_asNote y_a_panics y_a_panicWith y_a_capacity y_a_held y_a_closed y_a_values y_a_out => J141 y_x4 y_x5 (y_f_lines, y_f_bad, y_f_state, y_f_queued, y_f_started, y_f_now, y_f_clock, y_f_turn, y_f_off, y_f_made, y_f_printed, y_f_panicValue, y_a_kind, y_a_opA, y_a_opB, y_a_opC, y_a_open, y_a_seen, y_a_unset, y_a_status, y_a_depth, y_a_since, y_a_resume, y_a_shocked, y_a_queue, y_a_until, y_a_channels, y_a_pc, y_a_vars, y_a_noted, y_a_noteOf, y_a_noteB, y_a_noteC, y_a_asNote, y_a_panics, y_a_panicWith, y_a_capacity, y_a_held, y_a_closed, y_a_values, y_a_out)) x1 x3 x4 x5 z0 (ya_lines u) (ya_bad u) (ya_state u) (ya_queued u) (ya_started u) (ya_now u) (ya_clock u) (ya_turn u) (ya_off u) (ya_made u) (ya_printed u) (ya_panicValue u) (ya_kind u) (ya_opA u) (ya_opB u) (ya_opC u) (ya_open u) (ya_seen u) (ya_unset u) (ya_status u) (ya_depth u) (ya_since u) (ya_resume u) (ya_shocked u) (ya_queue u) (ya_until u) (ya_channels u) (ya_pc u) (ya_vars u) (ya_noted u) (ya_noteOf u) (ya_noteB u) (ya_noteC u) (ya_asNote u) (ya_panics u) (ya_panicWith u) (ya_capacity u) (ya_held u) (ya_closed u) (ya_values u) (ya_out u)
def cy_spread_141 (post : Int32 → SY → Prop) (x1 : Int32) (x3 : Int32) (n : Nat) (x4 : Int32) (x5 : Int32) (u : SY) : Prop := wY_spread_141 post x1 x3 n x4 x5 (ya_lines u) (ya_bad u) (ya_state u) (ya_queued u) (ya_started u) (ya_now u) (ya_clock u) (ya_turn u) (ya_off u) (ya_made u) (ya_printed u) (ya_panicValue u) (ya_kind u) (ya_opA u) (ya_opB u) (ya_opC u) (ya_open u) (ya_seen u) (ya_unset u) (ya_status u) (ya_depth u) (ya_since u) (ya_resume u) (ya_shocked u) (ya_queue u) (ya_until u) (ya_channels u) (ya_pc u) (ya_vars u) (ya_noted u) (ya_noteOf u) (ya_noteB u) (ya_noteC u) (ya_asNote u) (ya_panics u) (ya_panicWith u) (ya_capacity u) (ya_held u) (ya_closed u) (ya_values u) (ya_out u)
def cy_spread_84 (post : Int32 → SY → Prop) (x3 : Int32) (u : SY) (n : Nat) (x4 : Int32) : Prop := wY_spread_84 post x3 (ya_lines u) (ya_bad u) (ya_state u) (ya_queued u) (ya_started u) (ya_now u) (ya_clock u) (ya_turn u) (ya_off u) (ya_made u) (ya_printed u) (ya_panicValue u) (ya_kind u) (ya_opA u) (ya_opB u) (ya_opC u) (ya_open u) (ya_seen u) (ya_unset u) (ya_status u) (ya_depth u) (ya_since u) (ya_resume u) (ya_shocked u) (ya_queue u) (ya_until u) (ya_channels u) (ya_pc u) (ya_vars u) (ya_noted u) (ya_noteOf u) (ya_noteB u) (ya_noteC u) (ya_asNote u) (ya_panics u) (ya_panicWith u) (ya_capacity u) (ya_held u) (ya_closed u) (ya_values u) (ya_out u) n x4
def cy_spread_53 (post : Int32 → SY → Prop) (x1 : Int32) (x2 : Int32) (x3 : Int32) (u : SY) : Prop := wY_spread_53 post x1 x2 x3 (ya_lines u) (ya_bad u) (ya_state u) (ya_queued u) (ya_started u) (ya_now u) (ya_clock u) (ya_turn u) (ya_off u) (ya_made u) (ya_printed u) (ya_panicValue u) (ya_kind u) (ya_opA u) (ya_opB u) (ya_opC u) (ya_open u) (ya_seen u) (ya_unset u) (ya_status u) (ya_depth u) (ya_since u) (ya_resume u) (ya_shocked u) (ya_queue u) (ya_until u) (ya_channels u) (ya_pc u) (ya_vars u) (ya_noted u) (ya_noteOf u) (ya_noteB u) (ya_noteC u) (ya_asNote u) (ya_panics u) (ya_panicWith u) (ya_capacity u) (ya_held u) (ya_closed u) (ya_values u) (ya_out u)
def cy_spread_34 (post : Int32 → SY → Prop) (x1 : Int32) (x2 : Int32) (x3 : Int32) (u : SY) : Prop := wY_spread_34 post x1 x2 x3 (ya_lines u) (ya_bad u) (ya_state u) (ya_queued u) (ya_started u) (ya_now u) (ya_clock u) (ya_turn u) (ya_off u) (ya_made u) (ya_printed u) (ya_panicValue u) (ya_kind u) (ya_opA u) (ya_opB u) (ya_opC u) (ya_open u) (ya_seen u) (ya_unset u) (ya_status u) (ya_depth u) (ya_since u) (ya_resume u) (ya_shocked u) (ya_queue u) (ya_until u) (ya_channels u) (ya_pc u) (ya_vars u) (ya_noted u) (ya_noteOf u) (ya_noteB u) (ya_noteC u) (ya_asNote u) (ya_panics u) (ya_panicWith u) (ya_capacity u) (ya_held u) (ya_closed u) (ya_values u) (ya_out u)
def cy_reads_343 (post : Int32 → Prop) (x2 : Int32) (x4 : Int32) (x5 : Int32) (u : SY) : Prop := wY_reads_343 post x2 x4 x5 (ya_lines u) (ya_bad u) (ya_state u) (ya_queued u) (ya_started u) (ya_now u) (ya_clock u) (ya_turn u) (ya_off u) (ya_made u) (ya_printed u) (ya_panicValue u) (ya_kind u) (ya_opA u) (ya_opB u) (ya_opC u) (ya_open u) (ya_seen u) (ya_unset u) (ya_status u) (ya_depth u) (ya_since u) (ya_resume u) (ya_shocked u) (ya_queue u) (ya_until u) (ya_channels u) (ya_pc u) (ya_vars u) (ya_noted u) (ya_noteOf u) (ya_noteB u) (ya_noteC u) (ya_asNote u) (ya_panics u) (ya_panicWith u) (ya_capacity u) (ya_held u) (ya_closed u) (ya_values u) (ya_out u)
def cy_reads_328 (post : Int32 → Prop) (J227 : Int32 → Int32 → Prop) (x1 : Int32) (x6 : Int32) (x7 : Int32) (u : SY) : Prop := wY_reads_328 post J227 x1 x6 x7 (ya_lines u) (ya_bad u) (ya_state u) (ya_queued u) (ya_started u) (ya_now u) (ya_clock u) (ya_turn u) (ya_off u) (ya_made u) (ya_printed u) (ya_panicValue u) (ya_kind u) (ya_opA u) (ya_opB u) (ya_opC u) (ya_open u) (ya_seen u) (ya_unset u) (ya_status u) (ya_depth u) (ya_since u) (ya_resume u) (ya_shocked u) (ya_queue u) (ya_until u) (ya_channels u) (ya_pc u) (ya_vars u) (ya_noted u) (ya_noteOf u) (ya_noteB u) (ya_noteC u) (ya_asNote u) (ya_panics u) (ya_panicWith u) (ya_capacity u) (ya_held u) (ya_closed u) (ya_values u) (ya_out u)
def cy_reads_300 (post : Int32 → Prop) (J227 : Int32 → Int32 → Prop) (x1 : Int32) (x6 : Int32) (x7 : Int32) (u : SY) : Prop := wY_reads_300 post J227 x1 x6 x7 (ya_lines u) (ya_bad u) (ya_state u) (ya_queued u) (ya_started u) (ya_now u) (ya_clock u) (ya_turn u) (ya_off u) (ya_made u) (ya_printed u) (ya_panicValue u) (ya_kind u) (ya_opA u) (ya_opB u) (ya_opC u) (ya_open u) (ya_seen u) (ya_unset u) (ya_status u) (ya_depth u) (ya_since u) (ya_resume u) (ya_shocked u) (ya_queue u) (ya_until u) (ya_channels u) (ya_pc u) (ya_vars u) (ya_noted u) (ya_noteOf u) (ya_noteB u) (ya_noteC u) (ya_asNote u) (ya_panics u) (ya_panicWith u) (ya_capacity u) (ya_held u) (ya_closed u) (ya_values u) (ya_out u)
def cy_reads_272 (post : Int32 → Prop) (J227 : Int32 → Int32 → Prop) (x1 : Int32) (x6 : Int32) (x7 : Int32) (u : SY) : Prop := wY_reads_272 post J227 x1 x6 x7 (ya_lines u) (ya_bad u) (ya_state u) (ya_queued u) (ya_started u) (ya_now u) (ya_clock u) (ya_turn u) (ya_off u) (ya_made u) (ya_printed u) (ya_panicValue u) (ya_kind u) (ya_opA u) (ya_opB u) (ya_opC u) (ya_open u) (ya_seen u) (ya_unset u) (ya_status u) (ya_depth u) (ya_since u) (ya_resume u) (ya_shocked u) (ya_queue u) (ya_until u) (ya_channels u) (ya_pc u) (ya_vars u) (ya_noted u) (ya_noteOf u) (ya_noteB u) (ya_noteC u) (ya_asNote u) (ya_panics u) (ya_panicWith u) (ya_capacity u) (ya_held u) (ya_closed u) (ya_values u) (ya_out u)
def cy_reads_227 (post : Int32 → Prop) (x1 : Int32) (u : SY) (n : Nat) (x6 : Int32) (x7 : Int32) : Prop := wY_reads_227 post x1 (ya_lines u) (ya_bad u) (ya_state u) (ya_queued u) (ya_started u) (ya_now u) (ya_clock u) (ya_turn u) (ya_off u) (ya_made u) (ya_printed u) (ya_panicValue u) (ya_kind u) (ya_opA u) (ya_opB u) (ya_opC u) (ya_open u) (ya_seen u) (ya_unset u) (ya_status u) (ya_depth u) (ya_since u) (ya_resume u) (ya_shocked u) (ya_queue u) (ya_until u) (ya_channels u) (ya_pc u) (ya_vars u) (ya_noted u) (ya_noteOf u) (ya_noteB u) (ya_noteC u) (ya_asNote u) (ya_panics u) (ya_panicWith u) (ya_capacity u) (ya_held u) (ya_closed u) (ya_values u) (ya_out u) n x6 x7
def cy_reads_174 (post : Int32 → Prop) (x1 : Int32) (x4 : Int32) (x5 : Int32) (u : SY) : Prop := wY_reads_174 post x1 x4 x5 (ya_lines u) (ya_bad u) (ya_state u) (ya_queued u) (ya_started u) (ya_now u) (ya_clock u) (ya_turn u) (ya_off u) (ya_made u) (ya_printed u) (ya_panicValue u) (ya_kind u) (ya_opA u) (ya_opB u) (ya_opC u) (ya_open u) (ya_seen u) (ya_unset u) (ya_status u) (ya_depth u) (ya_since u) (ya_resume u) (ya_shocked u) (ya_queue u) (ya_until u) (ya_channels u) (ya_pc u) (ya_vars u) (ya_noted u) (ya_noteOf u) (ya_noteB u) (ya_noteC u) (ya_asNote u) (ya_panics u) (ya_panicWith u) (ya_capacity u) (ya_held u) (ya_closed u) (ya_values u) (ya_out u)
def cy_unsetLine_109 (post : Int32 → SY → Prop) (u : SY) (n : Nat) (x2 : Int32) : Prop := wY_unsetLine_109 post (ya_lines u) (ya_bad u) (ya_state u) (ya_queued u) (ya_started u) (ya_now u) (ya_clock u) (ya_turn u) (ya_off u) (ya_made u) (ya_printed u) (ya_panicValue u) (ya_kind u) (ya_opA u) (ya_opB u) (ya_opC u) (ya_open u) (ya_seen u) (ya_unset u) (ya_status u) (ya_depth u) (ya_since u) (ya_resume u) (ya_shocked u) (ya_queue u) (ya_until u) (ya_channels u) (ya_pc u) (ya_vars u) (ya_noted u) (ya_noteOf u) (ya_noteB u) (ya_noteC u) (ya_asNote u) (ya_panics u) (ya_panicWith u) (ya_capacity u) (ya_held u) (ya_closed u) (ya_values u) (ya_out u) n x2
def cy_unsetLine_70 (post : Int32 → SY → Prop) (J55 : Int32 → Int32 → SY → Prop) (x2 : Int32) (n : Nat) (x1 : Int32) (x3 : Int32) (u : SY) : Prop := wY_unsetLine_70 post (fun y_x1 y_x2 y_f_lines y_f_bad y_f_state y_f_queued y_f_started y_f_now y_f_clock y_f_turn y_f_off y_f_made y_f_printed y_f_panicValue y_a_kind y_a_opA y_a_opB y_a_opC y_a_open y_a_seen y_a_unset y_a_status y_a_depth y_a_since y_a_resume y_a_shocked y_a_queue y_a_until y_a_channels y_a_pc y_a_vars y_a_noted y_a_noteOf y_a_noteB y_a_noteC y_a_asNote y_a_panics y_a_panicWith y_a_capacity y_a_held y_a_closed y_a_values y_a_out => J55 y_x1 y_x2 (y_f_lines, y_f_bad, y_f_state, y_f_queued, y_f_started, y_f_now, y_f_clock, y_f_turn, y_f_off, y_f_made, y_f_printed, y_f_panicValue, y_a_kind, y_a_opA, y_a_opB, y_a_opC, y_a_open, y_a_seen, y_a_unset, y_a_status, y_a_depth, y_a_since, y_a_resume, y_a_shocked, y_a_queue, y_a_until, y_a_channels, y_a_pc, y_a_vars, y_a_noted, y_a_noteOf, y_a_noteB, y_a_noteC, y_a_asNote, y_a_panics, y_a_panicWith, y_a_capacity, y_a_held, y_a_closed, y_a_values, y_a_out)) x2 n x1 x3 (ya_lines u) (ya_bad u) (ya_state u) (ya_queued u) (ya_started u) (ya_now u) (ya_clock u) (ya_turn u) (ya_off u) (ya_made u) (ya_printed u) (ya_panicValue u) (ya_kind u) (ya_opA u) (ya_opB u) (ya_opC u) (ya_open u) (ya_seen u) (ya_unset u) (ya_status u) (ya_depth u) (ya_since u) (ya_resume u) (ya_shocked u) (ya_queue u) (ya_until u) (ya_channels u) (ya_pc u) (ya_vars u) (ya_noted u) (ya_noteOf u) (ya_noteB u) (ya_noteC u) (ya_asNote u) (ya_panics u) (ya_panicWith u) (ya_capacity u) (ya_held u) (ya_closed u) (ya_values u) (ya_out u)
def cy_unsetLine_55 (post : Int32 → SY → Prop) (n : Nat) (x1 : Int32) (x2 : Int32) (u : SY) : Prop := wY_unsetLine_55 post n x1 x2 (ya_lines u) (ya_bad u) (ya_state u) (ya_queued u) (ya_started u) (ya_now u) (ya_clock u) (ya_turn u) (ya_off u) (ya_made u) (ya_printed u) (ya_panicValue u) (ya_kind u) (ya_opA u) (ya_opB u) (ya_opC u) (ya_open u) (ya_seen u) (ya_unset u) (ya_status u) (ya_depth u) (ya_since u) (ya_resume u) (ya_shocked u) (ya_queue u) (ya_until u) (ya_channels u) (ya_pc u) (ya_vars u) (ya_noted u) (ya_noteOf u) (ya_noteB u) (ya_noteC u) (ya_asNote u) (ya_panics u) (ya_panicWith u) (ya_capacity u) (ya_held u) (ya_closed u) (ya_values u) (ya_out u)
def cy_unsetLine_2 (post : Int32 → SY → Prop) (n : Nat) (x1 : Int32) (u : SY) : Prop := wY_unsetLine_2 post (ya_lines u) (ya_bad u) (ya_state u) (ya_queued u) (ya_started u) (ya_now u) (ya_clock u) (ya_turn u) (ya_off u) (ya_made u) (ya_printed u) (ya_panicValue u) n x1 (ya_kind u) (ya_opA u) (ya_opB u) (ya_opC u) (ya_open u) (ya_seen u) (ya_unset u) (ya_status u) (ya_depth u) (ya_since u) (ya_resume u) (ya_shocked u) (ya_queue u) (ya_until u) (ya_channels u) (ya_pc u) (ya_vars u) (ya_noted u) (ya_noteOf u) (ya_noteB u) (ya_noteC u) (ya_asNote u) (ya_panics u) (ya_panicWith u) (ya_capacity u) (ya_held u) (ya_closed u) (ya_values u) (ya_out u)
def cy_enter_90 (post : SY → Prop) (J57 : Int32 → SY → Prop) (x3 : Int32) (x4 : Int32) (x5 : Int32) (x6 : Int32) (x7 : Int32) (z0 : Int32) (u : SY) : Prop := wY_enter_90 post (fun y_x7 y_a_kind y_a_opA y_a_opB y_a_opC y_a_open y_a_seen y_a_unset y_a_status y_a_depth y_a_since y_a_resume y_a_shocked y_a_queue y_a_until y_a_channels y_a_pc y_a_vars y_a_noted y_a_noteOf y_a_noteB y_a_noteC y_a_asNote y_a_panics y_a_panicWith y_a_capacity y_a_held y_a_closed y_a_values y_a_out => J57 y_x7 (ya_lines u, ya_bad u, ya_state u, ya_queued u, ya_started u, ya_now u, ya_clock u, ya_turn u, ya_off u, ya_made u, ya_printed u, ya_panicValue u, y_a_kind, y_a_opA, y_a_opB, y_a_opC, y_a_open, y_a_seen, y_a_unset, y_a_status, y_a_depth, y_a_since, y_a_resume, y_a_shocked, y_a_queue, y_a_until, y_a_channels, y_a_pc, y_a_vars, y_a_noted, y_a_noteOf, y_a_noteB, y_a_noteC, y_a_asNote, y_a_panics, y_a_panicWith, y_a_capacity, y_a_held, y_a_closed, y_a_values, y_a_out)) x3 x4 x5 x6 x7 z0 (ya_lines u) (ya_bad u) (ya_state u) (ya_queued u) (ya_started u) (ya_now u) (ya_clock u) (ya_turn u) (ya_off u) (ya_made u) (ya_printed u) (ya_panicValue u) (ya_kind u) (ya_opA u) (ya_opB u) (ya_opC u) (ya_open u) (ya_seen u) (ya_unset u) (ya_status u) (ya_depth u) (ya_since u) (ya_resume u) (ya_shocked u) (ya_queue u) (ya_until u) (ya_channels u) (ya_pc u) (ya_vars u) (ya_noted u) (ya_noteOf u) (ya_noteB u) (ya_noteC u) (ya_asNote u) (ya_panics u) (ya_panicWith u) (ya_capacity u) (ya_held u) (ya_closed u) (ya_values u) (ya_out u)
def cy_enter_57 (post : SY → Prop) (x3 : Int32) (x4 : Int32) (x5 : Int32) (x6 : Int32) (n : Nat) (x7 : Int32) (u : SY) : Prop := wY_enter_57 post x3 x4 x5 x6 (ya_lines u) (ya_bad u) (ya_state u) (ya_queued u) (ya_started u) (ya_now u) (ya_clock u) (ya_turn u) (ya_off u) (ya_made u) (ya_printed u) (ya_panicValue u) n x7 (ya_kind u) (ya_opA u) (ya_opB u) (ya_opC u) (ya_open u) (ya_seen u) (ya_unset u) (ya_status u) (ya_depth u) (ya_since u) (ya_resume u) (ya_shocked u) (ya_queue u) (ya_until u) (ya_channels u) (ya_pc u) (ya_vars u) (ya_noted u) (ya_noteOf u) (ya_noteB u) (ya_noteC u) (ya_asNote u) (ya_panics u) (ya_panicWith u) (ya_capacity u) (ya_held u) (ya_closed u) (ya_values u) (ya_out u)
def cy_value_27 (post : Int32 → Prop) (x2 : Int32) (u : SY) : Prop := wY_value_27 post x2 (ya_lines u) (ya_bad u) (ya_state u) (ya_queued u) (ya_started u) (ya_now u) (ya_clock u) (ya_turn u) (ya_off u) (ya_made u) (ya_printed u) (ya_panicValue u) (ya_kind u) (ya_opA u) (ya_opB u) (ya_opC u) (ya_open u) (ya_seen u) (ya_unset u) (ya_status u) (ya_depth u) (ya_since u) (ya_resume u) (ya_shocked u) (ya_queue u) (ya_until u) (ya_channels u) (ya_pc u) (ya_vars u) (ya_noted u) (ya_noteOf u) (ya_noteB u) (ya_noteC u) (ya_asNote u) (ya_panics u) (ya_panicWith u) (ya_capacity u) (ya_held u) (ya_closed u) (ya_values u) (ya_out u)
def cy_leave_2 (post : SY → Prop) (x1 : Int32) (n : Nat) (x2 : Int32) (u : SY) : Prop := wY_leave_2 post x1 (ya_lines u) (ya_bad u) (ya_state u) (ya_queued u) (ya_started u) (ya_now u) (ya_clock u) (ya_turn u) (ya_off u) (ya_made u) (ya_printed u) (ya_panicValue u) n x2 (ya_kind u) (ya_opA u) (ya_opB u) (ya_opC u) (ya_open u) (ya_seen u) (ya_unset u) (ya_status u) (ya_depth u) (ya_since u) (ya_resume u) (ya_shocked u) (ya_queue u) (ya_until u) (ya_channels u) (ya_pc u) (ya_vars u) (ya_noted u) (ya_noteOf u) (ya_noteB u) (ya_noteC u) (ya_asNote u) (ya_panics u) (ya_panicWith u) (ya_capacity u) (ya_held u) (ya_closed u) (ya_values u) (ya_out u)
def cy_waitLine_118 (post : Int32 → Prop) (x2 : Int32) (x4 : Int32) (z0 : Int32) (z1 : Int32) (u : SY) : Prop := wY_waitLine_118 post x2 x4 z0 z1 (ya_lines u) (ya_bad u) (ya_state u) (ya_queued u) (ya_started u) (ya_now u) (ya_clock u) (ya_turn u) (ya_off u) (ya_made u) (ya_printed u) (ya_panicValue u) (ya_kind u) (ya_opA u) (ya_opB u) (ya_opC u) (ya_open u) (ya_seen u) (ya_unset u) (ya_status u) (ya_depth u) (ya_since u) (ya_resume u) (ya_shocked u) (ya_queue u) (ya_until u) (ya_channels u) (ya_pc u) (ya_vars u) (ya_noted u) (ya_noteOf u) (ya_noteB u) (ya_noteC u) (ya_asNote u) (ya_panics u) (ya_panicWith u) (ya_capacity u) (ya_held u) (ya_closed u) (ya_values u) (ya_out u)
def cy_waitLine_89 (post : Int32 → Prop) (x1 : Int32) (x2 : Int32) (x3 : Int32) (x4 : Int32) (z0 : Int32) (u : SY) : Prop := wY_waitLine_89 post x1 x2 x3 x4 z0 (ya_lines u) (ya_bad u) (ya_state u) (ya_queued u) (ya_started u) (ya_now u) (ya_clock u) (ya_turn u) (ya_off u) (ya_made u) (ya_printed u) (ya_panicValue u) (ya_kind u) (ya_opA u) (ya_opB u) (ya_opC u) (ya_open u) (ya_seen u) (ya_unset u) (ya_status u) (ya_depth u) (ya_since u) (ya_resume u) (ya_shocked u) (ya_queue u) (ya_until u) (ya_channels u) (ya_pc u) (ya_vars u) (ya_noted u) (ya_noteOf u) (ya_noteB u) (ya_noteC u) (ya_asNote u) (ya_panics u) (ya_panicWith u) (ya_capacity u) (ya_held u) (ya_closed u) (ya_values u) (ya_out u)
def cy_waitLine_72 (post : Int32 → Prop) (x1 : Int32) (x2 : Int32) (x3 : Int32) (x4 : Int32) (u : SY) : Prop := wY_waitLine_72 post x1 x2 x3 x4 (ya_lines u) (ya_bad u) (ya_state u) (ya_queued u) (ya_started u) (ya_now u) (ya_clock u) (ya_turn u) (ya_off u) (ya_made u) (ya_printed u) (ya_panicValue u) (ya_kind u) (ya_opA u) (ya_opB u) (ya_opC u) (ya_open u) (ya_seen u) (ya_unset u) (ya_status u) (ya_depth u) (ya_since u) (ya_resume u) (ya_shocked u) (ya_queue u) (ya_until u) (ya_channels u) (ya_pc u) (ya_vars u) (ya_noted u) (ya_noteOf u) (ya_noteB u) (ya_noteC u) (ya_asNote u) (ya_panics u) (ya_panicWith u) (ya_capacity u) (ya_held u) (ya_closed u) (ya_values u) (ya_out u)
def cy_waitLine_201 (post : Int32 → Prop) (J142 : Int32 → Prop) (x1 : Int32) (x2 : Int32) (x3 : Int32) (x4 : Int32) (x5 : Int32) (u : SY) : Prop := wY_waitLine_201 post J142 x1 x2 x3 x4 x5 (ya_lines u) (ya_bad u) (ya_state u) (ya_queued u) (ya_started u) (ya_now u) (ya_clock u) (ya_turn u) (ya_off u) (ya_made u) (ya_printed u) (ya_panicValue u) (ya_kind u) (ya_opA u) (ya_opB u) (ya_opC u) (ya_open u) (ya_seen u) (ya_unset u) (ya_status u) (ya_depth u) (ya_since u) (ya_resume u) (ya_shocked u) (ya_queue u) (ya_until u) (ya_channels u) (ya_pc u) (ya_vars u) (ya_noted u) (ya_noteOf u) (ya_noteB u) (ya_noteC u) (ya_asNote u) (ya_panics u) (ya_panicWith u) (ya_capacity u) (ya_held u) (ya_closed u) (ya_values u) (ya_out u)
def cy_waitLine_191 (post : Int32 → Prop) (J142 : Int32 → Prop) (x1 : Int32) (x2 : Int32) (x3 : Int32) (x4 : Int32) (x5 : Int32) (z0 : Int32) (z1 : Int32) (u : SY) : Prop := wY_waitLine_191 post J142 x1 x2 x3 x4 x5 z0 z1 (ya_lines u) (ya_bad u) (ya_state u) (ya_queued u) (ya_started u) (ya_now u) (ya_clock u) (ya_turn u) (ya_off u) (ya_made u) (ya_printed u) (ya_panicValue u) (ya_kind u) (ya_opA u) (ya_opB u) (ya_opC u) (ya_open u) (ya_seen u) (ya_unset u) (ya_status u) (ya_depth u) (ya_since u) (ya_resume u) (ya_shocked u) (ya_queue u) (ya_until u) (ya_channels u) (ya_pc u) (ya_vars u) (ya_noted u) (ya_noteOf u) (ya_noteB u) (ya_noteC u) (ya_asNote u) (ya_panics u) (ya_panicWith u) (ya_capacity u) (ya_held u) (ya_closed u) (ya_values u) (ya_out u)
def cy_waitLine_165 (post : Int32 → Prop) (J142 : Int32 → Prop) (x1 : Int32) (x2 : Int32) (x3 : Int32) (x4 : Int32) (x5 : Int32) (z0 : Int32) (z1 : Int32) (u : SY) : Prop := wY_waitLine_165 post J142 x1 x2 x3 x4 x5 z0 z1 (ya_lines u) (ya_bad u) (ya_state u) (ya_queued u) (ya_started u) (ya_now u) (ya_clock u) (ya_turn u) (ya_off u) (ya_made u) (ya_printed u) (ya_panicValue u) (ya_kind u) (ya_opA u) (ya_opB u) (ya_opC u) (ya_open u) (ya_seen u) (ya_unset u) (ya_status u) (ya_depth u) (ya_since u) (ya_resume u) (ya_shocked u) (ya_queue u) (ya_until u) (ya_channels u) (ya_pc u) (ya_vars u) (ya_noted u) (ya_noteOf u) (ya_noteB u) (ya_noteC u) (ya_asNote u) (ya_panics u) (ya_panicWith u) (ya_capacity u) (ya_held u) (ya_closed u) (ya_values u) (ya_out u)
def cy_waitLine_142 (post : Int32 → Prop) (x1 : Int32) (x2 : Int32) (x3 : Int32) (x4 : Int32) (u : SY) (n : Nat) (x5 : Int32) : Prop := wY_waitLine_142 post x1 x2 x3 x4 (ya_lines u) (ya_bad u) (ya_state u) (ya_queued u) (ya_started u) (ya_now u) (ya_clock u) (ya_turn u) (ya_off u) (ya_made u) (ya_printed u) (ya_panicValue u) (ya_kind u) (ya_opA u) (ya_opB u) (ya_opC u) (ya_open u) (ya_seen u) (ya_unset u) (ya_status u) (ya_depth u) (ya_since u) (ya_resume u) (ya_shocked u) (ya_queue u) (ya_until u) (ya_channels u) (ya_pc u) (ya_vars u) (ya_noted u) (ya_noteOf u) (ya_noteB u) (ya_noteC u) (ya_asNote u) (ya_panics u) (ya_panicWith u) (ya_capacity u) (ya_held u) (ya_closed u) (ya_values u) (ya_out u) n x5
def cy_longest_5 (post : Int32 → Prop) (x1 : Int32) (x2 : Int32) (u : SY) (n : Nat) (x3 : Int32) (x4 : Int32) : Prop := wY_longest_5 post x1 x2 (ya_lines u) (ya_bad u) (ya_state u) (ya_queued u) (ya_started u) (ya_now u) (ya_clock u) (ya_turn u) (ya_off u) (ya_made u) (ya_printed u) (ya_panicValue u) (ya_kind u) (ya_opA u) (ya_opB u) (ya_opC u) (ya_open u) (ya_seen u) (ya_unset u) (ya_status u) (ya_depth u) (ya_since u) (ya_resume u) (ya_shocked u) (ya_queue u) (ya_until u) (ya_channels u) (ya_pc u) (ya_vars u) (ya_noted u) (ya_noteOf u) (ya_noteB u) (ya_noteC u) (ya_asNote u) (ya_panics u) (ya_panicWith u) (ya_capacity u) (ya_held u) (ya_closed u) (ya_values u) (ya_out u) n x3 x4
def cy_receive_198 (post : SY → Prop) (x4 : Int32) (x5 : Int32) (u : SY) : Prop := wY_receive_198 post x4 x5 (ya_lines u) (ya_bad u) (ya_state u) (ya_queued u) (ya_started u) (ya_now u) (ya_clock u) (ya_turn u) (ya_off u) (ya_made u) (ya_printed u) (ya_panicValue u) (ya_kind u) (ya_opA u) (ya_opB u) (ya_opC u) (ya_open u) (ya_seen u) (ya_unset u) (ya_status u) (ya_depth u) (ya_since u) (ya_resume u) (ya_shocked u) (ya_queue u) (ya_until u) (ya_channels u) (ya_pc u) (ya_vars u) (ya_noted u) (ya_noteOf u) (ya_noteB u) (ya_noteC u) (ya_asNote u) (ya_panics u) (ya_panicWith u) (ya_capacity u) (ya_held u) (ya_closed u) (ya_values u) (ya_out u)
def cy_receive_155 (post : SY → Prop) (x4 : Int32) (x5 : Int32) (u : SY) : Prop := wY_receive_155 post x4 x5 (ya_lines u) (ya_bad u) (ya_state u) (ya_queued u) (ya_started u) (ya_now u) (ya_clock u) (ya_turn u) (ya_off u) (ya_made u) (ya_printed u) (ya_panicValue u) (ya_kind u) (ya_opA u) (ya_opB u) (ya_opC u) (ya_open u) (ya_seen u) (ya_unset u) (ya_status u) (ya_depth u) (ya_since u) (ya_resume u) (ya_shocked u) (ya_queue u) (ya_until u) (ya_channels u) (ya_pc u) (ya_vars u) (ya_noted u) (ya_noteOf u) (ya_noteB u) (ya_noteC u) (ya_asNote u) (ya_panics u) (ya_panicWith u) (ya_capacity u) (ya_held u) (ya_closed u) (ya_values u) (ya_out u)
def cy_receive_25 (post : SY → Prop) (x1 : Int32) (x2 : Int32) (x3 : Int32) (x4 : Int32) (z0 : Int32) (u : SY) : Prop := wY_receive_25 post x1 x2 x3 x4 z0 (ya_lines u) (ya_bad u) (ya_state u) (ya_queued u) (ya_started u) (ya_now u) (ya_clock u) (ya_turn u) (ya_off u) (ya_made u) (ya_printed u) (ya_panicValue u) (ya_kind u) (ya_opA u) (ya_opB u) (ya_opC u) (ya_open u) (ya_seen u) (ya_unset u) (ya_status u) (ya_depth u) (ya_since u) (ya_resume u) (ya_shocked u) (ya_queue u) (ya_until u) (ya_channels u) (ya_pc u) (ya_vars u) (ya_noted u) (ya_noteOf u) (ya_noteB u) (ya_noteC u) (ya_asNote u) (ya_panics u) (ya_panicWith u) (ya_capacity u) (ya_held u) (ya_closed u) (ya_values u) (ya_out u)
def cy_close_59 (post : SY → Prop) (x1 : Int32) (n : Nat) (x2 : Int32) (u : SY) : Prop := wY_close_59 post x1 n x2 (ya_lines u) (ya_bad u) (ya_state u) (ya_queued u) (ya_started u) (ya_now u) (ya_clock u) (ya_turn u) (ya_off u) (ya_made u) (ya_printed u) (ya_panicValue u) (ya_kind u) (ya_opA u) (ya_opB u) (ya_opC u) (ya_open u) (ya_seen u) (ya_unset u) (ya_status u) (ya_depth u) (ya_since u) (ya_resume u) (ya_shocked u) (ya_queue u) (ya_until u) (ya_channels u) (ya_pc u) (ya_vars u) (ya_noted u) (ya_noteOf u) (ya_noteB u) (ya_noteC u) (ya_asNote u) (ya_panics u) (ya_panicWith u) (ya_capacity u) (ya_held u) (ya_closed u) (ya_values u) (ya_out u)
def cy_close_16 (post : SY → Prop) (x1 : Int32) (n : Nat) (x2 : Int32) (u : SY) : Prop := wY_close_16 post x1 n x2 (ya_lines u) (ya_bad u) (ya_state u) (ya_queued u) (ya_started u) (ya_now u) (ya_clock u) (ya_turn u) (ya_off u) (ya_made u) (ya_printed u) (ya_panicValue u) (ya_kind u) (ya_opA u) (ya_opB u) (ya_opC u) (ya_open u) (ya_seen u) (ya_unset u) (ya_status u) (ya_depth u) (ya_since u) (ya_resume u) (ya_shocked u) (ya_queue u) (ya_until u) (ya_channels u) (ya_pc u) (ya_vars u) (ya_noted u) (ya_noteOf u) (ya_noteB u) (ya_noteC u) (ya_asNote u) (ya_panics u) (ya_panicWith u) (ya_capacity u) (ya_held u) (ya_closed u) (ya_values u) (ya_out u)
def cy_select_271 (post : SY → Prop) (z0 : Int64) (z1 : Int32) (u : SY) : Prop := wY_select_271 post z0 z1 (ya_lines u) (ya_bad u) (ya_state u) (ya_queued u) (ya_started u) (ya_now u) (ya_clock u) (ya_turn u) (ya_off u) (ya_made u) (ya_printed u) (ya_panicValue u) (ya_kind u) (ya_opA u) (ya_opB u) (ya_opC u) (ya_open u) (ya_seen u) (ya_unset u) (ya_status u) (ya_depth u) (ya_since u) (ya_resume u) (ya_shocked u) (ya_queue u) (ya_until u) (ya_channels u) (ya_pc u) (ya_vars u) (ya_noted u) (ya_noteOf u) (ya_noteB u) (ya_noteC u) (ya_asNote u) (ya_panics u) (ya_panicWith u) (ya_capacity u) (ya_held u) (ya_closed u) (ya_values u) (ya_out u)
def cy_select_251 (post : SY → Prop) (x1 : Int32) (x3 : Int32) (x4 : Int32) (u : SY) : Prop := wY_select_251 post x1 x3 x4 (ya_lines u) (ya_bad u) (ya_state u) (ya_queued u) (ya_started u) (ya_now u) (ya_clock u) (ya_turn u) (ya_off u) (ya_made u) (ya_printed u) (ya_panicValue u) (ya_kind u) (ya_opA u) (ya_opB u) (ya_opC u) (ya_open u) (ya_seen u) (ya_unset u) (ya_status u) (ya_depth u) (ya_since u) (ya_resume u) (ya_shocked u) (ya_queue u) (ya_until u) (ya_channels u) (ya_pc u) (ya_vars u) (ya_noted u) (ya_noteOf u) (ya_noteB u) (ya_noteC u) (ya_asNote u) (ya_panics u) (ya_panicWith u) (ya_capacity u) (ya_held u) (ya_closed u) (ya_values u) (ya_out u)
def cy_select_229 (post : SY → Prop) (x1 : Int32) (x3 : Int32) (z0 : Int32) (u : SY) : Prop := wY_select_229 post x1 x3 z0 (ya_lines u) (ya_bad u) (ya_state u) (ya_queued u) (ya_started u) (ya_now u) (ya_clock u) (ya_turn u) (ya_off u) (ya_made u) (ya_printed u) (ya_panicValue u) (ya_kind u) (ya_opA u) (ya_opB u) (ya_opC u) (ya_open u) (ya_seen u) (ya_unset u) (ya_status u) (ya_depth u) (ya_since u) (ya_resume u) (ya_shocked u) (ya_queue u) (ya_until u) (ya_channels u) (ya_pc u) (ya_vars u) (ya_noted u) (ya_noteOf u) (ya_noteB u) (ya_noteC u) (ya_asNote u) (ya_panics u) (ya_panicWith u) (ya_capacity u) (ya_held u) (ya_closed u) (ya_values u) (ya_out u)
def cy_select_214 (post : SY → Prop) (x1 : Int32) (x3 : Int32) (u : SY) : Prop := wY_select_214 post x1 x3 (ya_lines u) (ya_bad u) (ya_state u) (ya_queued u) (ya_started u) (ya_now u) (ya_clock u) (ya_turn u) (ya_off u) (ya_made u) (ya_printed u) (ya_panicValue u) (ya_kind u) (ya_opA u) (ya_opB u) (ya_opC u) (ya_open u) (ya_seen u) (ya_unset u) (ya_status u) (ya_depth u) (ya_since u) (ya_resume u) (ya_shocked u) (ya_queue u) (ya_until u) (ya_channels u) (ya_pc u) (ya_vars u) (ya_noted u) (ya_noteOf u) (ya_noteB u) (ya_noteC u) (ya_asNote u) (ya_panics u) (ya_panicWith u) (ya_capacity u) (ya_held u) (ya_closed u) (ya_values u) (ya_out u)
def cy_select_187 (post : SY → Prop) (J10 : Int32 → Int32 → Prop) (x1 : Int32) (x2 : Int32) (x3 : Int32) (x4 : Int32) (u : SY) : Prop := wY_select_187 post J10 x1 x2 x3 x4 (ya_lines u) (ya_bad u) (ya_state u) (ya_queued u) (ya_started u) (ya_now u) (ya_clock u) (ya_turn u) (ya_off u) (ya_made u) (ya_printed u) (ya_panicValue u) (ya_kind u) (ya_opA u) (ya_opB u) (ya_opC u) (ya_open u) (ya_seen u) (ya_unset u) (ya_status u) (ya_depth u) (ya_since u) (ya_resume u) (ya_shocked u) (ya_queue u) (ya_until u) (ya_channels u) (ya_pc u) (ya_vars u) (ya_noted u) (ya_noteOf u) (ya_noteB u) (ya_noteC u) (ya_asNote u) (ya_panics u) (ya_panicWith u) (ya_capacity u) (ya_held u) (ya_closed u) (ya_values u) (ya_out u)
def cy_select_147 (post : SY → Prop) (J10 : Int32 → Int32 → Prop) (x1 : Int32) (x2 : Int32) (x3 : Int32) (x4 : Int32) (x5 : Int32) (u : SY) : Prop := wY_select_147 post J10 x1 x2 x3 x4 x5 (ya_lines u) (ya_bad u) (ya_state u) (ya_queued u) (ya_started u) (ya_now u) (ya_clock u) (ya_turn u) (ya_off u) (ya_made u) (ya_printed u) (ya_panicValue u) (ya_kind u) (ya_opA u) (ya_opB u) (ya_opC u) (ya_open u) (ya_seen u) (ya_unset u) (ya_status u) (ya_depth u) (ya_since u) (ya_resume u) (ya_shocked u) (ya_queue u) (ya_until u) (ya_channels u) (ya_pc u) (ya_vars u) (ya_noted u) (ya_noteOf u) (ya_noteB u) (ya_noteC u) (ya_asNote u) (ya_panics u) (ya_panicWith u) (ya_capacity u) (ya_held u) (ya_closed u) (ya_values u) (ya_out u)
def cy_select_82 (post : SY → Prop) (J10 : Int32 → Int32 → Prop) (x1 : Int32) (x2 : Int32) (x3 : Int32) (x4 : Int32) (x5 : Int32) (u : SY) : Prop := wY_select_82 post J10 x1 x2 x3 x4 x5 (ya_lines u) (ya_bad u) (ya_state u) (ya_queued u) (ya_started u) (ya_now u) (ya_clock u) (ya_turn u) (ya_off u) (ya_made u) (ya_printed u) (ya_panicValue u) (ya_kind u) (ya_opA u) (ya_opB u) (ya_opC u) (ya_open u) (ya_seen u) (ya_unset u) (ya_status u) (ya_depth u) (ya_since u) (ya_resume u) (ya_shocked u) (ya_queue u) (ya_until u) (ya_channels u) (ya_pc u) (ya_vars u) (ya_noted u) (ya_noteOf u) (ya_noteB u) (ya_noteC u) (ya_asNote u) (ya_panics u) (ya_panicWith u) (ya_capacity u) (ya_held u) (ya_closed u) (ya_values u) (ya_out u)
def cy_select_65 (post : SY → Prop) (J10 : Int32 → Int32 → Prop) (x1 : Int32) (x2 : Int32) (x3 : Int32) (x4 : Int32) (z0 : Int32) (u : SY) : Prop := wY_select_65 post J10 x1 x2 x3 x4 z0 (ya_lines u) (ya_bad u) (ya_state u) (ya_queued u) (ya_started u) (ya_now u) (ya_clock u) (ya_turn u) (ya_off u) (ya_made u) (ya_printed u) (ya_panicValue u) (ya_kind u) (ya_opA u) (ya_opB u) (ya_opC u) (ya_open u) (ya_seen u) (ya_unset u) (ya_status u) (ya_depth u) (ya_since u) (ya_resume u) (ya_shocked u) (ya_queue u) (ya_until u) (ya_channels u) (ya_pc u) (ya_vars u) (ya_noted u) (ya_noteOf u) (ya_noteB u) (ya_noteC u) (ya_asNote u) (ya_panics u) (ya_panicWith u) (ya_capacity u) (ya_held u) (ya_closed u) (ya_values u) (ya_out u)
def cy_select_62 (post : SY → Prop) (J10 : Int32 → Int32 → Prop) (x1 : Int32) (x2 : Int32) (x3 : Int32) (x4 : Int32) (z0 : Int32) (z1 : Int32) (u : SY) : Prop := wY_select_62 post J10 x1 x2 x3 x4 z0 z1 (ya_lines u) (ya_bad u) (ya_state u) (ya_queued u) (ya_started u) (ya_now u) (ya_clock u) (ya_turn u) (ya_off u) (ya_made u) (ya_printed u) (ya_panicValue u) (ya_kind u) (ya_opA u) (ya_opB u) (ya_opC u) (ya_open u) (ya_seen u) (ya_unset u) (ya_status u) (ya_depth u) (ya_since u) (ya_resume u) (ya_shocked u) (ya_queue u) (ya_until u) (ya_channels u) (ya_pc u) (ya_vars u) (ya_noted u) (ya_noteOf u) (ya_noteB u) (ya_noteC u) (ya_asNote u) (ya_panics u) (ya_panicWith u) (ya_capacity u) (ya_held u) (ya_closed u) (ya_values u) (ya_out u)
def cy_select_10 (post : SY → Prop) (x1 : Int32) (x2 : Int32) (u : SY) (n : Nat) (x3 : Int32) (x4 : Int32) : Prop := wY_select_10 post x1 x2 (ya_lines u) (ya_bad u) (ya_state u) (ya_queued u) (ya_started u) (ya_now u) (ya_clock u) (ya_turn u) (ya_off u) (ya_made u) (ya_printed u) (ya_panicValue u) (ya_kind u) (ya_opA u) (ya_opB u) (ya_opC u) (ya_open u) (ya_seen u) (ya_unset u) (ya_status u) (ya_depth u) (ya_since u) (ya_resume u) (ya_shocked u) (ya_queue u) (ya_until u) (ya_channels u) (ya_pc u) (ya_vars u) (ya_noted u) (ya_noteOf u) (ya_noteB u) (ya_noteC u) (ya_asNote u) (ya_panics u) (ya_panicWith u) (ya_capacity u) (ya_held u) (ya_closed u) (ya_values u) (ya_out u) n x3 x4
def cy_plain_221 (post : Int32 → SY → Prop) (x6 : Int32) (x7 : Int32) (z0 : Int32) (z1 : Int32) (z2 : Int32) (u : SY) : Prop := wY_plain_221 post x6 x7 z0 z1 z2 (ya_lines u) (ya_bad u) (ya_state u) (ya_queued u) (ya_started u) (ya_now u) (ya_clock u) (ya_turn u) (ya_off u) (ya_made u) (ya_printed u) (ya_panicValue u) (ya_kind u) (ya_opA u) (ya_opB u) (ya_opC u) (ya_open u) (ya_seen u) (ya_unset u) (ya_status u) (ya_depth u) (ya_since u) (ya_resume u) (ya_shocked u) (ya_queue u) (ya_until u) (ya_channels u) (ya_pc u) (ya_vars u) (ya_noted u) (ya_noteOf u) (ya_noteB u) (ya_noteC u) (ya_asNote u) (ya_panics u) (ya_panicWith u) (ya_capacity u) (ya_held u) (ya_closed u) (ya_values u) (ya_out u)
def cy_plain_193 (post : Int32 → SY → Prop) (x1 : Int32) (x2 : Int32) (x6 : Int32) (z0 : Int32) (u : SY) : Prop := wY_plain_193 post x1 x2 x6 z0 (ya_lines u) (ya_bad u) (ya_state u) (ya_queued u) (ya_started u) (ya_now u) (ya_clock u) (ya_turn u) (ya_off u) (ya_made u) (ya_printed u) (ya_panicValue u) (ya_kind u) (ya_opA u) (ya_opB u) (ya_opC u) (ya_open u) (ya_seen u) (ya_unset u) (ya_status u) (ya_depth u) (ya_since u) (ya_resume u) (ya_shocked u) (ya_queue u) (ya_until u) (ya_channels u) (ya_pc u) (ya_vars u) (ya_noted u) (ya_noteOf u) (ya_noteB u) (ya_noteC u) (ya_asNote u) (ya_panics u) (ya_panicWith u) (ya_capacity u) (ya_held u) (ya_closed u) (ya_values u) (ya_out u)
def cy_plain_192 (post : Int32 → SY → Prop) (x1 : Int32) (x2 : Int32) (x6 : Int32) (u : SY) : Prop := wY_plain_192 post x1 x2 x6 (ya_lines u) (ya_bad u) (ya_state u) (ya_queued u) (ya_started u) (ya_now u) (ya_clock u) (ya_turn u) (ya_off u) (ya_made u) (ya_printed u) (ya_panicValue u) (ya_kind u) (ya_opA u) (ya_opB u) (ya_opC u) (ya_open u) (ya_seen u) (ya_unset u) (ya_status u) (ya_depth u) (ya_since u) (ya_resume u) (ya_shocked u) (ya_queue u) (ya_until u) (ya_channels u) (ya_pc u) (ya_vars u) (ya_noted u) (ya_noteOf u) (ya_noteB u) (ya_noteC u) (ya_asNote u) (ya_panics u) (ya_panicWith u) (ya_capacity u) (ya_held u) (ya_closed u) (ya_values u) (ya_out u)
def cy_plain_384 (post : Int32 → SY → Prop) (z0 : Int32) (z1 : Int32) (z2 : Int32) (u : SY) : Prop := wY_plain_384 post z0 z1 z2 (ya_lines u) (ya_bad u) (ya_state u) (ya_queued u) (ya_started u) (ya_now u) (ya_clock u) (ya_turn u) (ya_off u) (ya_made u) (ya_printed u) (ya_panicValue u) (ya_kind u) (ya_opA u) (ya_opB u) (ya_opC u) (ya_open u) (ya_seen u) (ya_unset u) (ya_status u) (ya_depth u) (ya_since u) (ya_resume u) (ya_shocked u) (ya_queue u) (ya_until u) (ya_channels u) (ya_pc u) (ya_vars u) (ya_noted u) (ya_noteOf u) (ya_noteB u) (ya_noteC u) (ya_asNote u) (ya_panics u) (ya_panicWith u) (ya_capacity u) (ya_held u) (ya_closed u) (ya_values u) (ya_out u)
def cy_plain_409 (post : Int32 → SY → Prop) (z0 : Int32) (z1 : Int32) (z2 : Int32) (u : SY) : Prop := wY_plain_409 post z0 z1 z2 (ya_lines u) (ya_bad u) (ya_state u) (ya_queued u) (ya_started u) (ya_now u) (ya_clock u) (ya_turn u) (ya_off u) (ya_made u) (ya_printed u) (ya_panicValue u) (ya_kind u) (ya_opA u) (ya_opB u) (ya_opC u) (ya_open u) (ya_seen u) (ya_unset u) (ya_status u) (ya_depth u) (ya_since u) (ya_resume u) (ya_shocked u) (ya_queue u) (ya_until u) (ya_channels u) (ya_pc u) (ya_vars u) (ya_noted u) (ya_noteOf u) (ya_noteB u) (ya_noteC u) (ya_asNote u) (ya_panics u) (ya_panicWith u) (ya_capacity u) (ya_held u) (ya_closed u) (ya_values u) (ya_out u)
def cy_execute_593 (post : SY → Prop) (x1 : Int32) (x2 : Int32) (u : SY) : Prop := wY_execute_593 post x1 x2 (ya_lines u) (ya_bad u) (ya_state u) (ya_queued u) (ya_started u) (ya_now u) (ya_clock u) (ya_turn u) (ya_off u) (ya_made u) (ya_printed u) (ya_panicValue u) (ya_kind u) (ya_opA u) (ya_opB u) (ya_opC u) (ya_open u) (ya_seen u) (ya_unset u) (ya_status u) (ya_depth u) (ya_since u) (ya_resume u) (ya_shocked u) (ya_queue u) (ya_until u) (ya_channels u) (ya_pc u) (ya_vars u) (ya_noted u) (ya_noteOf u) (ya_noteB u) (ya_noteC u) (ya_asNote u) (ya_panics u) (ya_panicWith u) (ya_capacity u) (ya_held u) (ya_closed u) (ya_values u) (ya_out u)
def cy_execute_578 (post : SY → Prop) (x1 : Int32) (x2 : Int32) (x3 : Int32) (x4 : Int32) (x5 : Int32) (u : SY) : Prop := wY_execute_578 post x1 x2 x3 x4 x5 (ya_lines u) (ya_bad u) (ya_state u) (ya_queued u) (ya_started u) (ya_now u) (ya_clock u) (ya_turn u) (ya_off u) (ya_made u) (ya_printed u) (ya_panicValue u) (ya_kind u) (ya_opA u) (ya_opB u) (ya_opC u) (ya_open u) (ya_seen u) (ya_unset u) (ya_status u) (ya_depth u) (ya_since u) (ya_resume u) (ya_shocked u) (ya_queue u) (ya_until u) (ya_channels u) (ya_pc u) (ya_vars u) (ya_noted u) (ya_noteOf u) (ya_noteB u) (ya_noteC u) (ya_asNote u) (ya_panics u) (ya_panicWith u) (ya_capacity u) (ya_held u) (ya_closed u) (ya_values u) (ya_out u)
def cy_execute_205 (post : SY → Prop) (x1 : Int32) (z0 : Int32) (u : SY) : Prop := wY_execute_205 post x1 z0 (ya_lines u) (ya_bad u) (ya_state u) (ya_queued u) (ya_started u) (ya_now u) (ya_clock u) (ya_turn u) (ya_off u) (ya_made u) (ya_printed u) (ya_panicValue u) (ya_kind u) (ya_opA u) (ya_opB u) (ya_opC u) (ya_open u) (ya_seen u) (ya_unset u) (ya_status u) (ya_depth u) (ya_since u) (ya_resume u) (ya_shocked u) (ya_queue u) (ya_until u) (ya_channels u) (ya_pc u) (ya_vars u) (ya_noted u) (ya_noteOf u) (ya_noteB u) (ya_noteC u) (ya_asNote u) (ya_panics u) (ya_panicWith u) (ya_capacity u) (ya_held u) (ya_closed u) (ya_values u) (ya_out u)
def cy_execute_232 (post : SY → Prop) (x1 : Int32) (z0 : Int32) (u : SY) : Prop := wY_execute_232 post x1 z0 (ya_lines u) (ya_bad u) (ya_state u) (ya_queued u) (ya_started u) (ya_now u) (ya_clock u) (ya_turn u) (ya_off u) (ya_made u) (ya_printed u) (ya_panicValue u) (ya_kind u) (ya_opA u) (ya_opB u) (ya_opC u) (ya_open u) (ya_seen u) (ya_unset u) (ya_status u) (ya_depth u) (ya_since u) (ya_resume u) (ya_shocked u) (ya_queue u) (ya_until u) (ya_channels u) (ya_pc u) (ya_vars u) (ya_noted u) (ya_noteOf u) (ya_noteB u) (ya_noteC u) (ya_asNote u) (ya_panics u) (ya_panicWith u) (ya_capacity u) (ya_held u) (ya_closed u) (ya_values u) (ya_out u)
def cy_execute_249 (post : SY → Prop) (x1 : Int32) (u : SY) (n : Nat) (x9 : Int32) : Prop := wY_execute_249 post x1 (ya_lines u) (ya_bad u) (ya_state u) (ya_queued u) (ya_started u) (ya_now u) (ya_clock u) (ya_turn u) (ya_off u) (ya_made u) (ya_printed u) (ya_panicValue u) (ya_kind u) (ya_opA u) (ya_opB u) (ya_opC u) (ya_open u) (ya_seen u) (ya_unset u) (ya_status u) (ya_depth u) (ya_since u) (ya_resume u) (ya_shocked u) (ya_queue u) (ya_until u) (ya_channels u) (ya_pc u) (ya_vars u) (ya_noted u) (ya_noteOf u) (ya_noteB u) (ya_noteC u) (ya_asNote u) (ya_panics u) (ya_panicWith u) (ya_capacity u) (ya_held u) (ya_closed u) (ya_values u) (ya_out u) n x9
def cy_execute_391 (post : SY → Prop) (x1 : Int32) (u : SY) : Prop := wY_execute_391 post x1 (ya_lines u) (ya_bad u) (ya_state u) (ya_queued u) (ya_started u) (ya_now u) (ya_clock u) (ya_turn u) (ya_off u) (ya_made u) (ya_printed u) (ya_panicValue u) (ya_kind u) (ya_opA u) (ya_opB u) (ya_opC u) (ya_open u) (ya_seen u) (ya_unset u) (ya_status u) (ya_depth u) (ya_since u) (ya_resume u) (ya_shocked u) (ya_queue u) (ya_until u) (ya_channels u) (ya_pc u) (ya_vars u) (ya_noted u) (ya_noteOf u) (ya_noteB u) (ya_noteC u) (ya_asNote u) (ya_panics u) (ya_panicWith u) (ya_capacity u) (ya_held u) (ya_closed u) (ya_values u) (ya_out u)
def cy_late_52 (post : SY → Prop) (x1 : Int32) (x2 : Int32) (u : SY) : Prop := wY_late_52 post x1 x2 (ya_lines u) (ya_bad u) (ya_state u) (ya_queued u) (ya_started u) (ya_now u) (ya_clock u) (ya_turn u) (ya_off u) (ya_made u) (ya_printed u) (ya_panicValue u) (ya_kind u) (ya_opA u) (ya_opB u) (ya_opC u) (ya_open u) (ya_seen u) (ya_unset u) (ya_status u) (ya_depth u) (ya_since u) (ya_resume u) (ya_shocked u) (ya_queue u) (ya_until u) (ya_channels u) (ya_pc u) (ya_vars u) (ya_noted u) (ya_noteOf u) (ya_noteB u) (ya_noteC u) (ya_asNote u) (ya_panics u) (ya_panicWith u) (ya_capacity u) (ya_held u) (ya_closed u) (ya_values u) (ya_out u)
def cy_late_31 (post : SY → Prop) (x1 : Int32) (x3 : Int32) (u : SY) (n : Nat) (x2 : Int32) : Prop := wY_late_31 post x1 x3 (ya_lines u) (ya_bad u) (ya_state u) (ya_queued u) (ya_started u) (ya_now u) (ya_clock u) (ya_turn u) (ya_off u) (ya_made u) (ya_printed u) (ya_panicValue u) (ya_kind u) (ya_opA u) (ya_opB u) (ya_opC u) (ya_open u) (ya_seen u) (ya_unset u) (ya_status u) (ya_depth u) (ya_since u) (ya_resume u) (ya_shocked u) (ya_queue u) (ya_until u) (ya_channels u) (ya_pc u) (ya_vars u) (ya_noted u) (ya_noteOf u) (ya_noteB u) (ya_noteC u) (ya_asNote u) (ya_panics u) (ya_panicWith u) (ya_capacity u) (ya_held u) (ya_closed u) (ya_values u) (ya_out u) n x2
def cy_passTime_89 (post : SY → Prop) (J77 : Int32 → SY → Prop) (x1 : Int64) (x3 : Int32) (u : SY) (n : Nat) (x4 : Int32) (x5 : Int32) : Prop := wY_passTime_89 post (fun y_x3 y_f_lines y_f_bad y_f_state y_f_queued y_f_started y_f_now y_f_clock y_f_turn y_f_off y_f_made y_f_printed y_f_panicValue y_a_kind y_a_opA y_a_opB y_a_opC y_a_open y_a_seen y_a_unset y_a_status y_a_depth y_a_since y_a_resume y_a_shocked y_a_queue y_a_until y_a_channels y_a_pc y_a_vars y_a_noted y_a_noteOf y_a_noteB y_a_noteC y_a_asNote y_a_panics y_a_panicWith y_a_capacity y_a_held y_a_closed y_a_values y_a_out => J77 y_x3 (y_f_lines, y_f_bad, y_f_state, y_f_queued, y_f_started, y_f_now, y_f_clock, y_f_turn, y_f_off, y_f_made, y_f_printed, y_f_panicValue, y_a_kind, y_a_opA, y_a_opB, y_a_opC, y_a_open, y_a_seen, y_a_unset, y_a_status, y_a_depth, y_a_since, y_a_resume, y_a_shocked, y_a_queue, y_a_until, y_a_channels, y_a_pc, y_a_vars, y_a_noted, y_a_noteOf, y_a_noteB, y_a_noteC, y_a_asNote, y_a_panics, y_a_panicWith, y_a_capacity, y_a_held, y_a_closed, y_a_values, y_a_out)) x1 x3 (ya_lines u) (ya_bad u) (ya_state u) (ya_queued u) (ya_started u) (ya_now u) (ya_clock u) (ya_turn u) (ya_off u) (ya_made u) (ya_printed u) (ya_panicValue u) (ya_kind u) (ya_opA u) (ya_opB u) (ya_opC u) (ya_open u) (ya_seen u) (ya_unset u) (ya_status u) (ya_depth u) (ya_since u) (ya_resume u) (ya_shocked u) (ya_queue u) (ya_until u) (ya_channels u) (ya_pc u) (ya_vars u) (ya_noted u) (ya_noteOf u) (ya_noteB u) (ya_noteC u) (ya_asNote u) (ya_panics u) (ya_panicWith u) (ya_capacity u) (ya_held u) (ya_closed u) (ya_values u) (ya_out u) n x4 x5
def cy_passTime_77 (post : SY → Prop) (x1 : Int64) (n : Nat) (x3 : Int32) (u : SY) : Prop := wY_passTime_77 post x1 n x3 (ya_lines u) (ya_bad u) (ya_state u) (ya_queued u) (ya_started u) (ya_now u) (ya_clock u) (ya_turn u) (ya_off u) (ya_made u) (ya_printed u) (ya_panicValue u) (ya_kind u) (ya_opA u) (ya_opB u) (ya_opC u) (ya_open u) (ya_seen u) (ya_unset u) (ya_status u) (ya_depth u) (ya_since u) (ya_resume u) (ya_shocked u) (ya_queue u) (ya_until u) (ya_channels u) (ya_pc u) (ya_vars u) (ya_noted u) (ya_noteOf u) (ya_noteB u) (ya_noteC u) (ya_asNote u) (ya_panics u) (ya_panicWith u) (ya_capacity u) (ya_held u) (ya_closed u) (ya_values u) (ya_out u)
def cy_passTime_6 (post : SY → Prop) (u : SY) (n : Nat) (x1 : Int64) (x3 : Int32) : Prop := wY_passTime_6 post (ya_lines u) (ya_bad u) (ya_state u) (ya_queued u) (ya_started u) (ya_now u) (ya_clock u) (ya_turn u) (ya_off u) (ya_made u) (ya_printed u) (ya_panicValue u) (ya_kind u) (ya_opA u) (ya_opB u) (ya_opC u) (ya_open u) (ya_seen u) (ya_unset u) (ya_status u) (ya_depth u) (ya_since u) (ya_resume u) (ya_shocked u) (ya_queue u) (ya_until u) (ya_channels u) (ya_pc u) (ya_vars u) (ya_noted u) (ya_noteOf u) (ya_noteB u) (ya_noteC u) (ya_asNote u) (ya_panics u) (ya_panicWith u) (ya_capacity u) (ya_held u) (ya_closed u) (ya_values u) (ya_out u) n x1 x3
def cy_next_51 (post : SY → Prop) (n : Nat) (x1 : Int32) (u : SY) : Prop := wY_next_51 post (ya_lines u) (ya_bad u) (ya_state u) (ya_queued u) (ya_started u) (ya_now u) (ya_clock u) (ya_turn u) (ya_off u) (ya_made u) (ya_printed u) (ya_panicValue u) n x1 (ya_kind u) (ya_opA u) (ya_opB u) (ya_opC u) (ya_open u) (ya_seen u) (ya_unset u) (ya_status u) (ya_depth u) (ya_since u) (ya_resume u) (ya_shocked u) (ya_queue u) (ya_until u) (ya_channels u) (ya_pc u) (ya_vars u) (ya_noted u) (ya_noteOf u) (ya_noteB u) (ya_noteC u) (ya_asNote u) (ya_panics u) (ya_panicWith u) (ya_capacity u) (ya_held u) (ya_closed u) (ya_values u) (ya_out u)
def cy_next_11 (post : SY → Prop) (u : SY) : Prop := wY_next_11 post (ya_lines u) (ya_bad u) (ya_state u) (ya_queued u) (ya_started u) (ya_now u) (ya_clock u) (ya_turn u) (ya_off u) (ya_made u) (ya_printed u) (ya_panicValue u) (ya_kind u) (ya_opA u) (ya_opB u) (ya_opC u) (ya_open u) (ya_seen u) (ya_unset u) (ya_status u) (ya_depth u) (ya_since u) (ya_resume u) (ya_shocked u) (ya_queue u) (ya_until u) (ya_channels u) (ya_pc u) (ya_vars u) (ya_noted u) (ya_noteOf u) (ya_noteB u) (ya_noteC u) (ya_asNote u) (ya_panics u) (ya_panicWith u) (ya_capacity u) (ya_held u) (ya_closed u) (ya_values u) (ya_out u)
def cy_run_58 (post : Int32 → SY → Prop) (J19 : Int32 → SY → Prop) (x1 : Int32) (x2 : Int32) (n : Nat) (x4 : Int32) (u : SY) : Prop := wY_run_58 post (fun y_x2 y_f_lines y_f_bad y_f_state y_f_queued y_f_started y_f_now y_f_clock y_f_turn y_f_off y_f_made y_f_printed y_f_panicValue y_a_kind y_a_opA y_a_opB y_a_opC y_a_open y_a_seen y_a_unset y_a_status y_a_depth y_a_since y_a_resume y_a_shocked y_a_queue y_a_until y_a_channels y_a_pc y_a_vars y_a_noted y_a_noteOf y_a_noteB y_a_noteC y_a_asNote y_a_panics y_a_panicWith y_a_capacity y_a_held y_a_closed y_a_values y_a_out => J19 y_x2 (y_f_lines, y_f_bad, y_f_state, y_f_queued, y_f_started, y_f_now, y_f_clock, y_f_turn, y_f_off, y_f_made, y_f_printed, y_f_panicValue, y_a_kind, y_a_opA, y_a_opB, y_a_opC, y_a_open, y_a_seen, y_a_unset, y_a_status, y_a_depth, y_a_since, y_a_resume, y_a_shocked, y_a_queue, y_a_until, y_a_channels, y_a_pc, y_a_vars, y_a_noted, y_a_noteOf, y_a_noteB, y_a_noteC, y_a_asNote, y_a_panics, y_a_panicWith, y_a_capacity, y_a_held, y_a_closed, y_a_values, y_a_out)) x1 x2 n x4 (ya_lines u) (ya_bad u) (ya_state u) (ya_queued u) (ya_started u) (ya_now u) (ya_clock u) (ya_turn u) (ya_off u) (ya_made u) (ya_printed u) (ya_panicValue u) (ya_kind u) (ya_opA u) (ya_opB u) (ya_opC u) (ya_open u) (ya_seen u) (ya_unset u) (ya_status u) (ya_depth u) (ya_since u) (ya_resume u) (ya_shocked u) (ya_queue u) (ya_until u) (ya_channels u) (ya_pc u) (ya_vars u) (ya_noted u) (ya_noteOf u) (ya_noteB u) (ya_noteC u) (ya_asNote u) (ya_panics u) (ya_panicWith u) (ya_capacity u) (ya_held u) (ya_closed u) (ya_values u) (ya_out u)
def cy_run_19 (post : Int32 → SY → Prop) (x1 : Int32) (n : Nat) (x2 : Int32) (u : SY) : Prop := wY_run_19 post x1 n x2 (ya_lines u) (ya_bad u) (ya_state u) (ya_queued u) (ya_started u) (ya_now u) (ya_clock u) (ya_turn u) (ya_off u) (ya_made u) (ya_printed u) (ya_panicValue u) (ya_kind u) (ya_opA u) (ya_opB u) (ya_opC u) (ya_open u) (ya_seen u) (ya_unset u) (ya_status u) (ya_depth u) (ya_since u) (ya_resume u) (ya_shocked u) (ya_queue u) (ya_until u) (ya_channels u) (ya_pc u) (ya_vars u) (ya_noted u) (ya_noteOf u) (ya_noteB u) (ya_noteC u) (ya_asNote u) (ya_panics u) (ya_panicWith u) (ya_capacity u) (ya_held u) (ya_closed u) (ya_values u) (ya_out u)
def cy_panicking_14 (post : Int32 → Prop) (x1 : Int32) (u : SY) (n : Nat) (x2 : Int32) (x3 : Int32) : Prop := wY_panicking_14 post x1 (ya_lines u) (ya_bad u) (ya_state u) (ya_queued u) (ya_started u) (ya_now u) (ya_clock u) (ya_turn u) (ya_off u) (ya_made u) (ya_printed u) (ya_panicValue u) (ya_kind u) (ya_opA u) (ya_opB u) (ya_opC u) (ya_open u) (ya_seen u) (ya_unset u) (ya_status u) (ya_depth u) (ya_since u) (ya_resume u) (ya_shocked u) (ya_queue u) (ya_until u) (ya_channels u) (ya_pc u) (ya_vars u) (ya_noted u) (ya_noteOf u) (ya_noteB u) (ya_noteC u) (ya_asNote u) (ya_panics u) (ya_panicWith u) (ya_capacity u) (ya_held u) (ya_closed u) (ya_values u) (ya_out u) n x2 x3
theorem ux_endProgram (post : SX → Prop) (u : SX) : wpX_endProgram post u = (post (xs_queueLength (xs_running (xs_waitsBegun (xs_goroutineCount (xs_channelCount (xs_outputCount (xs_endingPanic (xs_time (xs_state u 0) 0) 0) 0) 0) 0) 0) (-1)) 0)) := sorry
theorem ux_isVariable (post : Int32 → Prop) (u : SX) (p0 : Int32) : wpX_isVariable post u p0 = (((p0 < 0 → (post 0)) ∧ (¬ p0 < 0 → (((6 ≤ p0 → (post 0)) ∧ (¬ 6 ≤ p0 → (post 1))))))) := sorry
theorem ux_computes (post : Int32 → Prop) (u : SX) (p0 : Int32) : wpX_computes post u p0 = (((p0 < 21 → (post 0)) ∧ (¬ p0 < 21 → (((27 < p0 → (post 0)) ∧ (¬ 27 < p0 → (post 1))))))) := sorry
theorem ux_argumentsFit_179 (post : Int32 → Prop) (x1 : Int32) (x2 : Int32) (u : SX) : cx_argumentsFit_179 post x1 x2 u = (wpX_computes (fun r_3 => (((r_3 = 0 → (post 1)) ∧ (¬ r_3 = 0 → (wpX_isVariable (fun r_45 => (((r_45 = 0 → (post 0)) ∧ (¬ r_45 = 0 → (post 1))))) u x2))))) u x1) := sorry
theorem ux_argumentsFit_111 (post : Int32 → Prop) (x2 : Int32) (x4 : Int32) (u : SX) : cx_argumentsFit_111 post x2 x4 u = (wpX_isVariable (fun r_98 => (((r_98 = 0 → (post 0)) ∧ (¬ r_98 = 0 → (wpX_isVariable (fun r_140 => (((r_140 = 0 → (post 0)) ∧ (¬ r_140 = 0 → (post 1))))) u x4))))) u x2) := sorry
theorem ux_argumentsFit_157 (post : Int32 → Prop) (x2 : Int32) (u : SX) : cx_argumentsFit_157 post x2 u = (((x2 < 0 → (post 0)) ∧ (¬ x2 < 0 → (((30 ≤ x2 → (post 0)) ∧ (¬ 30 ≤ x2 → (post 1))))))) := sorry
theorem ux_argumentsFit (post : Int32 → Prop) (u : SX) (p0 : Int32) (p1 : Int32) (p2 : Int32) (p3 : Int32) : wpX_argumentsFit post u p0 p1 p2 p3 = (((p0 < 0 → (cx_argumentsFit_179 post p0 p1 u)) ∧ (¬ p0 < 0 → (((19 < p0 → (cx_argumentsFit_179 post p0 p1 u)) ∧ (¬ 19 < p0 → (((p0 = 0 → (((p1 < 0 → (post 0)) ∧ (¬ p1 < 0 → (((2 < p1 → (post 0)) ∧ (¬ 2 < p1 → (post 1)))))))) ∧ (¬ p0 = 0 → (((p0 = 1 → (cx_argumentsFit_179 post p0 p1 u)) ∧ (¬ p0 = 1 → (((p0 = 2 → (cx_argumentsFit_179 post p0 p1 u)) ∧ (¬ p0 = 2 → (((p0 = 3 → (cx_argumentsFit_179 post p0 p1 u)) ∧ (¬ p0 = 3 → (((p0 = 4 → (cx_argumentsFit_179 post p0 p1 u)) ∧ (¬ p0 = 4 → (((p0 = 5 → (cx_argumentsFit_179 post p0 p1 u)) ∧ (¬ p0 = 5 → (((p0 = 6 → (cx_argumentsFit_179 post p0 p1 u)) ∧ (¬ p0 = 6 → (((p0 = 7 → (cx_argumentsFit_179 post p0 p1 u)) ∧ (¬ p0 = 7 → (((p0 = 8 → (cx_argumentsFit_111 post p1 p3 u)) ∧ (¬ p0 = 8 → (((p0 = 9 → (cx_argumentsFit_179 post p0 p1 u)) ∧ (¬ p0 = 9 → (((p0 = 10 → (cx_argumentsFit_179 post p0 p1 u)) ∧ (¬ p0 = 10 → (((p0 = 11 → (cx_argumentsFit_111 post p1 p3 u)) ∧ (¬ p0 = 11 → (((p0 = 12 → (cx_argumentsFit_179 post p0 p1 u)) ∧ (¬ p0 = 12 → (((p0 = 13 → (wpX_isVariable (fun r_187 => (((r_187 = 0 → (post 0)) ∧ (¬ r_187 = 0 → (((p2 < 0 → (post 0)) ∧ (¬ p2 < 0 → (((3 < p2 → (post 0)) ∧ (¬ 3 < p2 → (post 1))))))))))) u p1)) ∧ (¬ p0 = 13 → (((p0 = 14 → (cx_argumentsFit_157 post p1 u)) ∧ (¬ p0 = 14 → (((p0 = 15 → (cx_argumentsFit_157 post p1 u)) ∧ (¬ p0 = 15 → (((p0 = 16 → (cx_argumentsFit_157 post p1 u)) ∧ (¬ p0 = 16 → (((p0 = 17 → (cx_argumentsFit_179 post p0 p1 u)) ∧ (¬ p0 = 17 → (((p0 = 18 → (cx_argumentsFit_179 post p0 p1 u)) ∧ (¬ p0 = 18 → (((p0 = 19 → (wpX_isVariable (fun r_239 => (narrow .boolean (.int r_239) = .int r_239 ∧ (post r_239))) u p1)) ∧ (¬ p0 = 19 → (True))))))))))))))))))))))))))))))))))))))))))))))))))))))))))))))))))) := sorry
theorem ux_line (post : Int32 → SX → Prop) (u : SX) (p0 : Int32) (p1 : Int32) (p2 : Int32) (p3 : Int32) : wpX_line post u p0 p1 p2 p3 = (((60 ≤ (xa_lineCount u) → (post 0 u)) ∧ (¬ 60 ≤ (xa_lineCount u) → (((p0 < 0 → (post 0 u)) ∧ (¬ p0 < 0 → (((p0 ≤ 29 → (wpX_argumentsFit (fun r_4 => (((r_4 = 0 → (post 0 u)) ∧ (¬ r_4 = 0 → (vp_in (xa_lineCount u) 60 ∧ ∀ a_kinds_47, a_kinds_47 = upd (xa_kinds u) (xa_lineCount u).toNatClampNeg p0 → (vp_in (xa_lineCount u) 60 ∧ ∀ a_argA_49, a_argA_49 = upd (xa_argA u) (xa_lineCount u).toNatClampNeg p1 → (vp_in (xa_lineCount u) 60 ∧ ∀ a_argB_51, a_argB_51 = upd (xa_argB u) (xa_lineCount u).toNatClampNeg p2 → (vp_in (xa_lineCount u) 60 ∧ ∀ a_argC_53, a_argC_53 = upd (xa_argC u) (xa_lineCount u).toNatClampNeg p3 → (∀ f_lineCount_54, f_lineCount_54 = (xa_lineCount u) + 1 → (wpX_endProgram (fun u56 => (post 1 u56)) (xs_argC (xs_argB (xs_argA (xs_kinds (xs_lineCount u f_lineCount_54) a_kinds_47) a_argA_49) a_argB_51) a_argC_53))))))))))) u p0 p1 p2 p3)) ∧ (¬ p0 ≤ 29 → (post 0 u)))))))))) := sorry
theorem ux_clear (post : Int32 → SX → Prop) (u : SX) : wpX_clear post u = (wpX_endProgram (fun u2 => (post (xa_lineCount u) u2)) (xs_lineCount u 0)) := sorry
theorem ux_isCase (post : Int32 → Prop) (u : SX) (p0 : Int32) : wpX_isCase post u p0 = (((p0 = 7 → (post 1)) ∧ (¬ p0 = 7 → (((p0 = 8 → (post 1)) ∧ (¬ p0 = 8 → (post 0))))))) := sorry
theorem ux_isAlternative (post : Int32 → Prop) (u : SX) (p0 : Int32) : wpX_isAlternative post u p0 = (((p0 = 9 → (post 1)) ∧ (¬ p0 = 9 → (((p0 = 29 → (post 1)) ∧ (¬ p0 = 29 → (post 0))))))) := sorry
theorem ux_isSection (post : Int32 → Prop) (u : SX) (p0 : Int32) : wpX_isSection post u p0 = (wpX_isCase (fun r_1 => (((r_1 = 0 → (wpX_isAlternative (fun r_43 => (((r_43 = 0 → (post 0)) ∧ (¬ r_43 = 0 → (post 1))))) u p0)) ∧ (¬ r_1 = 0 → (post 1))))) u p0) := sorry
theorem ux_sectionFits_44 (post : Int32 → Prop) (J10 : Int32 → Int32 → Int32 → Prop) (x1 : Int32) (x2 : Int32) (x3 : Int32) (x4 : Int32) (x5 : Int32) (u : SX) : cx_sectionFits_44 post J10 x1 x2 x3 x4 x5 u = (vp_in x5 60 ∧ (((((xa_blockOf u) x5.toNatClampNeg) = x1 → (vp_in x5 60 ∧ (wpX_isAlternative (fun r_54 => (((r_54 = 0 → (∀ x5_96, x5_96 = x5 + 1 → (J10 x3 x4 x5_96))) ∧ (¬ r_54 = 0 → (∀ x4_97, x4_97 = x4 + 1 → (∀ x5_98, x5_98 = x5 + 1 → (J10 x3 x4_97 x5_98))))))) u ((xa_kinds u) x5.toNatClampNeg)))) ∧ (¬ ((xa_blockOf u) x5.toNatClampNeg) = x1 → (∀ x5_52, x5_52 = x5 + 1 → (J10 x3 x4 x5_52)))))) := sorry
theorem ux_sectionFits_10 (post : Int32 → Prop) (x1 : Int32) (x2 : Int32) (u : SX) (n : Nat) (x3 : Int32) (x4 : Int32) (x5 : Int32) : cx_sectionFits_10 post x1 x2 u (n + 1) x3 x4 x5 = (((x2 ≤ x5 → (vp_in x2 60 ∧ (wpX_isCase (fun r_4 => (((r_4 = 0 → (((1 ≤ x4 → (post 0)) ∧ (¬ 1 ≤ x4 → (post 1))))) ∧ (¬ r_4 = 0 → (((3 ≤ x3 → (post 0)) ∧ (¬ 3 ≤ x3 → (post 1)))))))) u ((xa_kinds u) x2.toNatClampNeg)))) ∧ (¬ x2 ≤ x5 → (vp_in x5 60 ∧ (((((xa_blockOf u) x5.toNatClampNeg) = x1 → (vp_in x5 60 ∧ (wpX_isCase (fun r_100 => (((r_100 = 0 → (cx_sectionFits_44 post (cx_sectionFits_10 post x1 x2 u n) x1 x2 x3 x4 x5 u)) ∧ (¬ r_100 = 0 → (∀ x3_142, x3_142 = x3 + 1 → (cx_sectionFits_44 post (cx_sectionFits_10 post x1 x2 u n) x1 x2 x3_142 x4 x5 u)))))) u ((xa_kinds u) x5.toNatClampNeg)))) ∧ (¬ ((xa_blockOf u) x5.toNatClampNeg) = x1 → (cx_sectionFits_44 post (cx_sectionFits_10 post x1 x2 u n) x1 x2 x3 x4 x5 u)))))))) := sorry
theorem ux_sectionFits (post : Int32 → Prop) (u : SX) (p0 : Int32) (p1 : Int32) : wpX_sectionFits post u p0 p1 = (∀ x5_1, x5_1 = p0 + 1 → (∃ n10 : Nat, cx_sectionFits_10 post p0 p1 u n10 0 0 x5_1)) := sorry
theorem ux_loopAround_4 (post : Int32 → Prop) (u : SX) (n : Nat) (x2 : Int32) (x3 : Int32) : cx_loopAround_4 post u (n + 1) x2 x3 = (((60 ≤ x3 → (post (-1))) ∧ (¬ 60 ≤ x3 → (((x2 = (-1) → (post (-1))) ∧ (¬ x2 = (-1) → (vp_in x2 60 ∧ (((((xa_kinds u) x2.toNatClampNeg) = 4 → (post x2)) ∧ (¬ ((xa_kinds u) x2.toNatClampNeg) = 4 → (vp_in x2 60 ∧ (∀ x2_6, x2_6 = (xa_blockOf u) x2.toNatClampNeg → (∀ x3_7, x3_7 = x3 + 1 → (cx_loopAround_4 post u n x2_6 x3_7)))))))))))))) := sorry
theorem ux_loopAround (post : Int32 → Prop) (u : SX) (p0 : Int32) : wpX_loopAround post u p0 = (∃ n4 : Nat, cx_loopAround_4 post u n4 p0 0) := sorry
theorem ux_fitsInto_89 (post : Int32 → Prop) (x1 : Int32) (x3 : Int32) (u : SX) : cx_fitsInto_89 post x1 x3 u = (((x3 = 3 → (vp_in x1 60 ∧ (((((xa_kinds u) x1.toNatClampNeg) = 2 → (vp_in x1 60 ∧ (((((xa_elseOf u) x1.toNatClampNeg) = (-1) → (post 1)) ∧ (¬ ((xa_elseOf u) x1.toNatClampNeg) = (-1) → (post 0)))))) ∧ (¬ ((xa_kinds u) x1.toNatClampNeg) = 2 → (post 0)))))) ∧ (¬ x3 = 3 → (((x3 = 5 → (wpX_loopAround (fun r_52 => (((r_52 = (-1) → (post 0)) ∧ (¬ r_52 = (-1) → (post 1))))) u x1)) ∧ (¬ x3 = 5 → (post 1))))))) := sorry
theorem ux_fitsInto (post : Int32 → Prop) (u : SX) (p0 : Int32) (p1 : Int32) : wpX_fitsInto post u p0 p1 = (vp_in p1 60 ∧ (∀ x3_2, x3_2 = (xa_kinds u) p1.toNatClampNeg → (((p0 = (-1) → (((x3_2 = 0 → (post 1)) ∧ (¬ x3_2 = 0 → (post 0))))) ∧ (¬ p0 = (-1) → (((x3_2 = 0 → (post 0)) ∧ (¬ x3_2 = 0 → (((x3_2 = 1 → (post 1)) ∧ (¬ x3_2 = 1 → (wpX_isSection (fun r_6 => (((r_6 = 0 → (vp_in p0 60 ∧ (((((xa_kinds u) p0.toNatClampNeg) = 6 → (((p0 = (p1 - 1) → (post 0)) ∧ (¬ p0 = (p1 - 1) → (cx_fitsInto_89 post p0 x3_2 u))))) ∧ (¬ ((xa_kinds u) p0.toNatClampNeg) = 6 → (cx_fitsInto_89 post p0 x3_2 u)))))) ∧ (¬ r_6 = 0 → (vp_in p0 60 ∧ (((((xa_kinds u) p0.toNatClampNeg) = 6 → (wpX_sectionFits (fun r_101 => (((r_101 = 0 → (post 0)) ∧ (¬ r_101 = 0 → (post 1))))) u p0 p1)) ∧ (¬ ((xa_kinds u) p0.toNatClampNeg) = 6 → (post 0))))))))) u x3_2)))))))))))) := sorry
theorem ux_formFault_104 (post : Int32 → SX → Prop) (J9 : Int32 → Int32 → SX → Prop) (x1 : Int32) (x2 : Int32) (x3 : Int32) (u : SX) : cx_formFault_104 post J9 x1 x2 x3 u = (((x3 = 0 → (∀ x2_56, x2_56 = x2 + 1 → (J9 x2 x2_56 u))) ∧ (¬ x3 = 0 → (((x3 = 2 → (∀ x2_58, x2_58 = x2 + 1 → (J9 x2 x2_58 u))) ∧ (¬ x3 = 2 → (((x3 = 4 → (∀ x2_60, x2_60 = x2 + 1 → (J9 x2 x2_60 u))) ∧ (¬ x3 = 4 → (((x3 = 6 → (∀ x2_63, x2_63 = x2 + 1 → (J9 x2 x2_63 u))) ∧ (¬ x3 = 6 → (∀ x2_62, x2_62 = x2 + 1 → (J9 x1 x2_62 u)))))))))))))) := sorry
theorem ux_formFault_85 (post : Int32 → SX → Prop) (J9 : Int32 → Int32 → SX → Prop) (x1 : Int32) (x2 : Int32) (x3 : Int32) (u : SX) : cx_formFault_85 post J9 x1 x2 x3 u = (((x3 = 1 → (vp_in x1 60 ∧ ∀ a_endOf_65, a_endOf_65 = upd (xa_endOf u) x1.toNatClampNeg x2 → (vp_in x1 60 ∧ (∀ x1_67, x1_67 = (xa_blockOf u) x1.toNatClampNeg → (cx_formFault_104 post J9 x1_67 x2 x3 (xs_endOf u a_endOf_65)))))) ∧ (¬ x3 = 1 → (cx_formFault_104 post J9 x1 x2 x3 u)))) := sorry
theorem ux_formFault_73 (post : Int32 → SX → Prop) (J9 : Int32 → Int32 → SX → Prop) (x1 : Int32) (x2 : Int32) (x3 : Int32) (u : SX) : cx_formFault_73 post J9 x1 x2 x3 u = (((x3 = 3 → (vp_in x1 60 ∧ ∀ a_elseOf_69, a_elseOf_69 = upd (xa_elseOf u) x1.toNatClampNeg x2 → (cx_formFault_85 post J9 x1 x2 x3 (xs_elseOf u a_elseOf_69)))) ∧ (¬ x3 = 3 → (cx_formFault_85 post J9 x1 x2 x3 u)))) := sorry
theorem ux_formFault_9 (post : Int32 → SX → Prop) (n : Nat) (x1 : Int32) (x2 : Int32) (u : SX) : cx_formFault_9 post (n + 1) x1 x2 u = ((((xa_lineCount u) ≤ x2 → (((x1 = (-1) → ((((xa_lineCount u) ≤ 0 → (post (xa_lineCount u) u)) ∧ (¬ (xa_lineCount u) ≤ 0 → (post (-1) u))))) ∧ (¬ x1 = (-1) → (post (xa_lineCount u) u))))) ∧ (¬ (xa_lineCount u) ≤ x2 → (wpX_fitsInto (fun r_4 => (((r_4 = 0 → (post x2 u)) ∧ (¬ r_4 = 0 → (vp_in x2 60 ∧ (∀ x3_47, x3_47 = (xa_kinds u) x2.toNatClampNeg → (vp_in x2 60 ∧ ∀ a_blockOf_49, a_blockOf_49 = upd (xa_blockOf u) x2.toNatClampNeg x1 → (vp_in x2 60 ∧ ∀ a_elseOf_51, a_elseOf_51 = upd (xa_elseOf u) x2.toNatClampNeg (-1) → (((x3_47 = 0 → (vp_in (xa_functionCount u) 30 ∧ ∀ a_functionLine_71, a_functionLine_71 = upd (xa_functionLine u) (xa_functionCount u).toNatClampNeg x2 → (∀ f_functionCount_72, f_functionCount_72 = (xa_functionCount u) + 1 → (cx_formFault_73 post (cx_formFault_9 post n) x1 x2 x3_47 (xs_functionLine (xs_elseOf (xs_blockOf (xs_functionCount u f_functionCount_72) a_blockOf_49) a_elseOf_51) a_functionLine_71))))) ∧ (¬ x3_47 = 0 → (cx_formFault_73 post (cx_formFault_9 post n) x1 x2 x3_47 (xs_elseOf (xs_blockOf u a_blockOf_49) a_elseOf_51))))))))))))) u x1 x2)))) := sorry
theorem ux_formFault (post : Int32 → SX → Prop) (u : SX) : wpX_formFault post u = (∃ n9 : Nat, cx_formFault_9 post n9 (-1) 0 (xs_functionCount u 0)) := sorry
theorem ux_isStart (post : Int32 → Prop) (u : SX) (p0 : Int32) : wpX_isStart post u p0 = (((p0 = 14 → (post 1)) ∧ (¬ p0 = 14 → (((p0 = 15 → (post 1)) ∧ (¬ p0 = 15 → (((p0 = 16 → (post 1)) ∧ (¬ p0 = 16 → (post 0)))))))))) := sorry
theorem ux_calleeFault_2 (post : Int32 → Prop) (u : SX) (n : Nat) (x1 : Int32) : cx_calleeFault_2 post u (n + 1) x1 = ((((xa_lineCount u) ≤ x1 → (post (-1))) ∧ (¬ (xa_lineCount u) ≤ x1 → (vp_in x1 60 ∧ (wpX_isStart (fun r_3 => (((r_3 = 0 → (∀ x1_45, x1_45 = x1 + 1 → (cx_calleeFault_2 post u n x1_45))) ∧ (¬ r_3 = 0 → (vp_in x1 60 ∧ (((((xa_argA u) x1.toNatClampNeg) < (xa_functionCount u) → (∀ x1_48, x1_48 = x1 + 1 → (cx_calleeFault_2 post u n x1_48))) ∧ (¬ ((xa_argA u) x1.toNatClampNeg) < (xa_functionCount u) → (post x1))))))))) u ((xa_kinds u) x1.toNatClampNeg)))))) := sorry
theorem ux_calleeFault (post : Int32 → Prop) (u : SX) : wpX_calleeFault post u = (∃ n2 : Nat, cx_calleeFault_2 post u n2 0) := sorry
theorem ux_variableBit (post : Int32 → Prop) (u : SX) (p0 : Int32) : wpX_variableBit post u p0 = (wpX_isVariable (fun r_1 => (((r_1 = 0 → (post 0)) ∧ (¬ r_1 = 0 → (post ((1 : Int32) <<< (p0 &&& 31))))))) u p0) := sorry
theorem ux_readBySections_95 (post : Int32 → Prop) (J6 : Int32 → Int32 → Prop) (x1 : Int32) (x2 : Int32) (x3 : Int32) (x4 : Int32) (u : SX) : cx_readBySections_95 post J6 x1 x2 x3 x4 u = (vp_in x3 60 ∧ (((((xa_blockOf u) x3.toNatClampNeg) = x1 → (vp_in x3 60 ∧ (((((xa_kinds u) x3.toNatClampNeg) = 29 → (∀ x2_98, x2_98 = x2 ||| x4 → (∀ x3_99, x3_99 = x3 + 1 → (J6 x2_98 x3_99)))) ∧ (¬ ((xa_kinds u) x3.toNatClampNeg) = 29 → (∀ x3_97, x3_97 = x3 + 1 → (J6 x2 x3_97))))))) ∧ (¬ ((xa_blockOf u) x3.toNatClampNeg) = x1 → (∀ x3_94, x3_94 = x3 + 1 → (J6 x2 x3_94)))))) := sorry
theorem ux_readBySections_69 (post : Int32 → Prop) (J6 : Int32 → Int32 → Prop) (x1 : Int32) (x2 : Int32) (x3 : Int32) (x4 : Int32) (x5 : Int32) (u : SX) : cx_readBySections_69 post J6 x1 x2 x3 x4 x5 u = (vp_in x3 60 ∧ (((((xa_blockOf u) x3.toNatClampNeg) = x1 → (vp_in x3 60 ∧ (((((xa_kinds u) x3.toNatClampNeg) = 8 → (∀ x2_102, x2_102 = x2 ||| x5 → (cx_readBySections_95 post J6 x1 x2_102 x3 x4 u))) ∧ (¬ ((xa_kinds u) x3.toNatClampNeg) = 8 → (cx_readBySections_95 post J6 x1 x2 x3 x4 u)))))) ∧ (¬ ((xa_blockOf u) x3.toNatClampNeg) = x1 → (cx_readBySections_95 post J6 x1 x2 x3 x4 u))))) := sorry
theorem ux_readBySections_6 (post : Int32 → Prop) (x1 : Int32) (u : SX) (n : Nat) (x2 : Int32) (x3 : Int32) : cx_readBySections_6 post x1 u (n + 1) x2 x3 = (vp_in x1 60 ∧ (((((xa_endOf u) x1.toNatClampNeg) ≤ x3 → (post x2)) ∧ (¬ ((xa_endOf u) x1.toNatClampNeg) ≤ x3 → (vp_in x3 60 ∧ (wpX_variableBit (fun r_5 => (vp_in x3 60 ∧ (wpX_variableBit (fun r_47 => (vp_in x3 60 ∧ (((((xa_blockOf u) x3.toNatClampNeg) = x1 → (vp_in x3 60 ∧ (((((xa_kinds u) x3.toNatClampNeg) = 7 → (∀ x2_105, x2_105 = (x2 ||| r_5) ||| r_47 → (cx_readBySections_69 post (cx_readBySections_6 post x1 u n) x1 x2_105 x3 r_5 r_47 u))) ∧ (¬ ((xa_kinds u) x3.toNatClampNeg) = 7 → (cx_readBySections_69 post (cx_readBySections_6 post x1 u n) x1 x2 x3 r_5 r_47 u)))))) ∧ (¬ ((xa_blockOf u) x3.toNatClampNeg) = x1 → (cx_readBySections_69 post (cx_readBySections_6 post x1 u n) x1 x2 x3 r_5 r_47 u)))))) u ((xa_argB u) x3.toNatClampNeg)))) u ((xa_argA u) x3.toNatClampNeg))))))) := sorry
theorem ux_readBySections (post : Int32 → Prop) (u : SX) (p0 : Int32) : wpX_readBySections post u p0 = (∀ x3_1, x3_1 = p0 + 1 → (∃ n6 : Nat, cx_readBySections_6 post p0 u n6 0 x3_1)) := sorry
theorem ux_variablesRead_220 (post : Int32 → Prop) (x1 : Int32) (x3 : Int32) (x4 : Int32) (u : SX) : cx_variablesRead_220 post x1 x3 x4 u = (vp_in x1 60 ∧ (wpX_computes (fun r_132 => (((r_132 = 0 → (post 0)) ∧ (¬ r_132 = 0 → (post (x3 ||| x4)))))) u ((xa_kinds u) x1.toNatClampNeg))) := sorry
theorem ux_variablesRead_200 (post : Int32 → Prop) (x4 : Int32) (x5 : Int32) (z0 : Int32) (u : SX) : cx_variablesRead_200 post x4 x5 z0 u = (((x5 ≤ 1 → (post (z0 ||| 0))) ∧ (¬ x5 ≤ 1 → (post (z0 ||| x4))))) := sorry
theorem ux_variablesRead_172 (post : Int32 → Prop) (x1 : Int32) (x3 : Int32) (x4 : Int32) (u : SX) : cx_variablesRead_172 post x1 x3 x4 u = (vp_in x1 60 ∧ (vp_in ((xa_argA u) x1.toNatClampNeg) 30 ∧ (vp_in ((xa_functionLine u) ((xa_argA u) x1.toNatClampNeg).toNatClampNeg) 60 ∧ (∀ x5_231, x5_231 = (xa_argA u) ((xa_functionLine u) ((xa_argA u) x1.toNatClampNeg).toNatClampNeg).toNatClampNeg → (((x5_231 ≤ 0 → (cx_variablesRead_200 post x4 x5_231 0 u)) ∧ (¬ x5_231 ≤ 0 → (cx_variablesRead_200 post x4 x5_231 x3 u)))))))) := sorry
theorem ux_variablesRead (post : Int32 → Prop) (u : SX) (p0 : Int32) : wpX_variablesRead post u p0 = (vp_in p0 60 ∧ (wpX_variableBit (fun r_2 => (vp_in p0 60 ∧ (wpX_variableBit (fun r_44 => (vp_in p0 60 ∧ (wpX_variableBit (fun r_86 => (vp_in p0 60 ∧ (∀ k_128, k_128 = (xa_kinds u) p0.toNatClampNeg → (((k_128 < 2 → (cx_variablesRead_220 post p0 r_44 r_86 u)) ∧ (¬ k_128 < 2 → (((28 < k_128 → (cx_variablesRead_220 post p0 r_44 r_86 u)) ∧ (¬ 28 < k_128 → (((k_128 = 2 → (post r_2)) ∧ (¬ k_128 = 2 → (((k_128 = 3 → (cx_variablesRead_220 post p0 r_44 r_86 u)) ∧ (¬ k_128 = 3 → (((k_128 = 4 → (post r_2)) ∧ (¬ k_128 = 4 → (((k_128 = 5 → (cx_variablesRead_220 post p0 r_44 r_86 u)) ∧ (¬ k_128 = 5 → (((k_128 = 6 → (wpX_readBySections (fun r_179 => (post r_179)) u p0)) ∧ (¬ k_128 = 6 → (((k_128 = 7 → (cx_variablesRead_220 post p0 r_44 r_86 u)) ∧ (¬ k_128 = 7 → (((k_128 = 8 → (cx_variablesRead_220 post p0 r_44 r_86 u)) ∧ (¬ k_128 = 8 → (((k_128 = 9 → (cx_variablesRead_220 post p0 r_44 r_86 u)) ∧ (¬ k_128 = 9 → (((k_128 = 10 → (post (r_2 ||| r_44))) ∧ (¬ k_128 = 10 → (((k_128 = 11 → (post r_44)) ∧ (¬ k_128 = 11 → (((k_128 = 12 → (post r_2)) ∧ (¬ k_128 = 12 → (((k_128 = 13 → (cx_variablesRead_220 post p0 r_44 r_86 u)) ∧ (¬ k_128 = 13 → (((k_128 = 14 → (cx_variablesRead_172 post p0 r_44 r_86 u)) ∧ (¬ k_128 = 14 → (((k_128 = 15 → (cx_variablesRead_172 post p0 r_44 r_86 u)) ∧ (¬ k_128 = 15 → (((k_128 = 16 → (cx_variablesRead_172 post p0 r_44 r_86 u)) ∧ (¬ k_128 = 16 → (((k_128 = 17 → (cx_variablesRead_220 post p0 r_44 r_86 u)) ∧ (¬ k_128 = 17 → (((k_128 = 18 → (post r_2)) ∧ (¬ k_128 = 18 → (((k_128 = 19 → (cx_variablesRead_220 post p0 r_44 r_86 u)) ∧ (¬ k_128 = 19 → (((k_128 = 20 → (post r_2)) ∧ (¬ k_128 = 20 → (((k_128 = 21 → (post r_44)) ∧ (¬ k_128 = 21 → (((k_128 = 22 → (cx_variablesRead_220 post p0 r_44 r_86 u)) ∧ (¬ k_128 = 22 → (((k_128 = 23 → (cx_variablesRead_220 post p0 r_44 r_86 u)) ∧ (¬ k_128 = 23 → (((k_128 = 24 → (cx_variablesRead_220 post p0 r_44 r_86 u)) ∧ (¬ k_128 = 24 → (((k_128 = 25 → (cx_variablesRead_220 post p0 r_44 r_86 u)) ∧ (¬ k_128 = 25 → (((k_128 = 26 → (cx_variablesRead_220 post p0 r_44 r_86 u)) ∧ (¬ k_128 = 26 → (((k_128 = 27 → (cx_variablesRead_220 post p0 r_44 r_86 u)) ∧ (¬ k_128 = 27 → (((k_128 = 28 → (post r_2)) ∧ (¬ k_128 = 28 → (True))))))))))))))))))))))))))))))))))))))))))))))))))))))))))))))))))))))))))))))))))))))))))) u ((xa_argC u) p0.toNatClampNeg)))) u ((xa_argB u) p0.toNatClampNeg)))) u ((xa_argA u) p0.toNatClampNeg))) := sorry
theorem ux_variablesSet_19 (post : Int32 → Prop) (x1 : Int32) (u : SX) : cx_variablesSet_19 post x1 u = (vp_in x1 60 ∧ (vp_in x1 60 ∧ (post (((1 : Int32) <<< (((xa_argA u) x1.toNatClampNeg) &&& 31)) ||| ((1 : Int32) <<< (((xa_argC u) x1.toNatClampNeg) &&& 31)))))) := sorry
theorem ux_variablesSet (post : Int32 → Prop) (u : SX) (p0 : Int32) : wpX_variablesSet post u p0 = (vp_in p0 60 ∧ (∀ x2_2, x2_2 = (xa_kinds u) p0.toNatClampNeg → (((x2_2 = 11 → (cx_variablesSet_19 post p0 u)) ∧ (¬ x2_2 = 11 → (((x2_2 = 8 → (cx_variablesSet_19 post p0 u)) ∧ (¬ x2_2 = 8 → (((x2_2 = 13 → (vp_in p0 60 ∧ (post ((1 : Int32) <<< (((xa_argA u) p0.toNatClampNeg) &&& 31))))) ∧ (¬ x2_2 = 13 → (((x2_2 = 19 → (vp_in p0 60 ∧ (post ((1 : Int32) <<< (((xa_argA u) p0.toNatClampNeg) &&& 31))))) ∧ (¬ x2_2 = 19 → (wpX_computes (fun r_11 => (((r_11 = 0 → (post 0)) ∧ (¬ r_11 = 0 → (vp_in p0 60 ∧ (post ((1 : Int32) <<< (((xa_argA u) p0.toNatClampNeg) &&& 31)))))))) u x2_2))))))))))))))) := sorry
theorem ux_reach_37 (post : SX → Prop) (x2 : Int32) (x3 : Int32) (u : SX) : cx_reach_37 post x2 x3 u = (vp_in x3 60 ∧ (vp_in x3 60 ∧ ∀ a_surelySet_8, a_surelySet_8 = upd (xa_surelySet u) x3.toNatClampNeg (((xa_surelySet u) x3.toNatClampNeg) &&& x2) → (post (xs_surelySet u a_surelySet_8)))) := sorry
theorem ux_reach_25 (post : SX → Prop) (x1 : Int32) (x2 : Int32) (u : SX) : cx_reach_25 post x1 x2 u = (vp_in x1 60 ∧ (vp_in ((xa_blockOf u) x1.toNatClampNeg) 60 ∧ (∀ x3_5, x3_5 = (xa_endOf u) ((xa_blockOf u) x1.toNatClampNeg).toNatClampNeg → (cx_reach_37 post x2 x3_5 u)))) := sorry
theorem ux_reach (post : SX → Prop) (u : SX) (p0 : Int32) (p1 : Int32) : wpX_reach post u p0 p1 = (vp_in p0 60 ∧ (((((xa_kinds u) p0.toNatClampNeg) = 3 → (cx_reach_25 post p0 p1 u)) ∧ (¬ ((xa_kinds u) p0.toNatClampNeg) = 3 → (vp_in p0 60 ∧ (wpX_isSection (fun r_10 => (((r_10 = 0 → (cx_reach_37 post p1 p0 u)) ∧ (¬ r_10 = 0 → (cx_reach_25 post p0 p1 u))))) u ((xa_kinds u) p0.toNatClampNeg))))))) := sorry
theorem ux_reachSections_4 (post : SX → Prop) (x1 : Int32) (x2 : Int32) (n : Nat) (x3 : Int32) (u : SX) : cx_reachSections_4 post x1 x2 (n + 1) x3 u = (vp_in x1 60 ∧ (((((xa_endOf u) x1.toNatClampNeg) ≤ x3 → (post u)) ∧ (¬ ((xa_endOf u) x1.toNatClampNeg) ≤ x3 → (vp_in x3 60 ∧ (((((xa_blockOf u) x3.toNatClampNeg) = x1 → (vp_in x3 60 ∧ (wpX_isSection (fun r_8 => (((r_8 = 0 → (∀ x3_50, x3_50 = x3 + 1 → (cx_reachSections_4 post x1 x2 n x3_50 u))) ∧ (¬ r_8 = 0 → (vp_in x3 60 ∧ (vp_in x3 60 ∧ ∀ a_surelySet_53, a_surelySet_53 = upd (xa_surelySet u) x3.toNatClampNeg (((xa_surelySet u) x3.toNatClampNeg) &&& x2) → (∀ x3_54, x3_54 = x3 + 1 → (cx_reachSections_4 post x1 x2 n x3_54 (xs_surelySet u a_surelySet_53))))))))) u ((xa_kinds u) x3.toNatClampNeg)))) ∧ (¬ ((xa_blockOf u) x3.toNatClampNeg) = x1 → (∀ x3_6, x3_6 = x3 + 1 → (cx_reachSections_4 post x1 x2 n x3_6 u)))))))))) := sorry
theorem ux_reachSections (post : SX → Prop) (u : SX) (p0 : Int32) (p1 : Int32) : wpX_reachSections post u p0 p1 = (∀ x3_1, x3_1 = p0 + 1 → (∃ n4 : Nat, cx_reachSections_4 post p0 p1 n4 x3_1 u)) := sorry
theorem ux_passOn_246 (post : SX → Prop) (x1 : Int32) (x2 : Int32) (u : SX) : cx_passOn_246 post x1 x2 u = (wpX_reach (fun u6 => (post u6)) u (x1 + 1) x2) := sorry
theorem ux_passOn_126 (post : SX → Prop) (x1 : Int32) (x2 : Int32) (u : SX) : cx_passOn_126 post x1 x2 u = (wpX_reach (fun u51 => (post u51)) u (x1 + 1) x2) := sorry
theorem ux_passOn_170 (post : SX → Prop) (x2 : Int32) (z0 : Int32) (u : SX) : cx_passOn_170 post x2 z0 u = (vp_in z0 60 ∧ (vp_in z0 60 ∧ ∀ a_surelySet_141, a_surelySet_141 = upd (xa_surelySet u) z0.toNatClampNeg (((xa_surelySet u) z0.toNatClampNeg) &&& x2) → (post (xs_surelySet u a_surelySet_141)))) := sorry
theorem ux_passOn (post : SX → Prop) (u : SX) (p0 : Int32) (p1 : Int32) : wpX_passOn post u p0 p1 = (vp_in p0 60 ∧ (∀ k_2, k_2 = (xa_kinds u) p0.toNatClampNeg → (((k_2 < 1 → (cx_passOn_246 post p0 p1 u)) ∧ (¬ k_2 < 1 → (((18 < k_2 → (cx_passOn_246 post p0 p1 u)) ∧ (¬ 18 < k_2 → (((k_2 = 1 → (vp_in p0 60 ∧ (vp_in ((xa_blockOf u) p0.toNatClampNeg) 60 ∧ (((((xa_kinds u) ((xa_blockOf u) p0.toNatClampNeg).toNatClampNeg) = 2 → (cx_passOn_126 post p0 p1 u)) ∧ (¬ ((xa_kinds u) ((xa_blockOf u) p0.toNatClampNeg).toNatClampNeg) = 2 → (vp_in p0 60 ∧ (vp_in ((xa_blockOf u) p0.toNatClampNeg) 60 ∧ (((((xa_kinds u) ((xa_blockOf u) p0.toNatClampNeg).toNatClampNeg) = 6 → (cx_passOn_126 post p0 p1 u)) ∧ (¬ ((xa_kinds u) ((xa_blockOf u) p0.toNatClampNeg).toNatClampNeg) = 6 → (post u)))))))))))) ∧ (¬ k_2 = 1 → (((k_2 = 2 → (wpX_reach (fun u96 => (vp_in p0 60 ∧ (((((xa_elseOf u96) p0.toNatClampNeg) = (-1) → (vp_in p0 60 ∧ (cx_passOn_170 post p1 ((xa_endOf u96) p0.toNatClampNeg) u96))) ∧ (¬ ((xa_elseOf u96) p0.toNatClampNeg) = (-1) → (vp_in p0 60 ∧ (cx_passOn_170 post p1 ((xa_elseOf u96) p0.toNatClampNeg) u96))))))) u (p0 + 1) p1)) ∧ (¬ k_2 = 2 → (((k_2 = 3 → (cx_passOn_246 post p0 p1 u)) ∧ (¬ k_2 = 3 → (((k_2 = 4 → (wpX_reach (fun u146 => (vp_in p0 60 ∧ (wpX_reach (fun u188 => (post u188)) u146 (((xa_endOf u146) p0.toNatClampNeg) + 1) p1))) u (p0 + 1) p1)) ∧ (¬ k_2 = 4 → (((k_2 = 5 → (vp_in p0 60 ∧ (wpX_loopAround (fun r_230 => (vp_in r_230 60 ∧ (wpX_reach (fun u273 => (post u273)) u (((xa_endOf u) r_230.toNatClampNeg) + 1) p1))) u ((xa_blockOf u) p0.toNatClampNeg)))) ∧ (¬ k_2 = 5 → (((k_2 = 6 → (wpX_reachSections (fun u315 => (post u315)) u p0 p1)) ∧ (¬ k_2 = 6 → (((k_2 = 7 → (cx_passOn_246 post p0 p1 u)) ∧ (¬ k_2 = 7 → (((k_2 = 8 → (cx_passOn_246 post p0 p1 u)) ∧ (¬ k_2 = 8 → (((k_2 = 9 → (cx_passOn_246 post p0 p1 u)) ∧ (¬ k_2 = 9 → (((k_2 = 10 → (cx_passOn_246 post p0 p1 u)) ∧ (¬ k_2 = 10 → (((k_2 = 11 → (cx_passOn_246 post p0 p1 u)) ∧ (¬ k_2 = 11 → (((k_2 = 12 → (cx_passOn_246 post p0 p1 u)) ∧ (¬ k_2 = 12 → (((k_2 = 13 → (cx_passOn_246 post p0 p1 u)) ∧ (¬ k_2 = 13 → (((k_2 = 14 → (cx_passOn_246 post p0 p1 u)) ∧ (¬ k_2 = 14 → (((k_2 = 15 → (cx_passOn_246 post p0 p1 u)) ∧ (¬ k_2 = 15 → (((k_2 = 16 → (cx_passOn_246 post p0 p1 u)) ∧ (¬ k_2 = 16 → (((k_2 = 17 → (post u)) ∧ (¬ k_2 = 17 → (((k_2 = 18 → (post u)) ∧ (¬ k_2 = 18 → (True))))))))))))))))))))))))))))))))))))))))))))))))))))))))))))))) := sorry
theorem ux_unsetFault_59 (post : Int32 → SX → Prop) (J26 : Int32 → SX → Prop) (x1 : Int32) (u : SX) : cx_unsetFault_59 post J26 x1 u = (vp_in x1 60 ∧ (((((xa_surelySet u) x1.toNatClampNeg) = 127 → (∀ x1_7, x1_7 = x1 + 1 → (J26 x1_7 u))) ∧ (¬ ((xa_surelySet u) x1.toNatClampNeg) = 127 → (wpX_variablesRead (fun r_8 => (vp_in x1 60 ∧ ((((r_8 &&& (((xa_surelySet u) x1.toNatClampNeg) ^^^ (-1))) = 0 → (vp_in x1 60 ∧ (wpX_variablesSet (fun r_52 => (∀ x3_93, x3_93 = ((xa_surelySet u) x1.toNatClampNeg) ||| r_52 → (wpX_passOn (fun u95 => (∀ x1_135, x1_135 = x1 + 1 → (J26 x1_135 u95))) u x1 x3_93))) u x1))) ∧ (¬ (r_8 &&& (((xa_surelySet u) x1.toNatClampNeg) ^^^ (-1))) = 0 → (post x1 u)))))) u x1))))) := sorry
theorem ux_unsetFault_26 (post : Int32 → SX → Prop) (n : Nat) (x1 : Int32) (u : SX) : cx_unsetFault_26 post (n + 1) x1 u = ((((xa_lineCount u) ≤ x1 → (post (-1) u)) ∧ (¬ (xa_lineCount u) ≤ x1 → (vp_in x1 60 ∧ (((((xa_kinds u) x1.toNatClampNeg) = 0 → (vp_in x1 60 ∧ (vp_in x1 60 ∧ ∀ a_surelySet_138, a_surelySet_138 = upd (xa_surelySet u) x1.toNatClampNeg (((1 : Int32) <<< (((xa_argA u) x1.toNatClampNeg) &&& 31)) - 1) → (cx_unsetFault_59 post (cx_unsetFault_26 post n) x1 (xs_surelySet u a_surelySet_138))))) ∧ (¬ ((xa_kinds u) x1.toNatClampNeg) = 0 → (cx_unsetFault_59 post (cx_unsetFault_26 post n) x1 u)))))))) := sorry
theorem ux_unsetFault_2 (post : Int32 → SX → Prop) (n : Nat) (x1 : Int32) (u : SX) : cx_unsetFault_2 post (n + 1) x1 u = ((((xa_lineCount u) ≤ x1 → (∃ n26 : Nat, cx_unsetFault_26 post n26 0 u)) ∧ (¬ (xa_lineCount u) ≤ x1 → (vp_in x1 60 ∧ ∀ a_surelySet_140, a_surelySet_140 = upd (xa_surelySet u) x1.toNatClampNeg 127 → (∀ x1_141, x1_141 = x1 + 1 → (cx_unsetFault_2 post n x1_141 (xs_surelySet u a_surelySet_140))))))) := sorry
theorem ux_unsetFault (post : Int32 → SX → Prop) (u : SX) : wpX_unsetFault post u = (∃ n2 : Nat, cx_unsetFault_2 post n2 0 u) := sorry
theorem ux_forgetWait_11 (post : SX → Prop) (x1 : Int32) (n : Nat) (x2 : Int32) (u : SX) : cx_forgetWait_11 post x1 (n + 1) x2 u = (((3 ≤ x2 → (post u)) ∧ (¬ 3 ≤ x2 → (vp_in ((x1 * 3) + x2) 36 ∧ ∀ a_slotWish_5, a_slotWish_5 = upd (xa_slotWish u) ((x1 * 3) + x2).toNatClampNeg 0 → (∀ x2_6, x2_6 = x2 + 1 → (cx_forgetWait_11 post x1 n x2_6 (xs_slotWish u a_slotWish_5))))))) := sorry
theorem ux_forgetWait (post : SX → Prop) (u : SX) (p0 : Int32) : wpX_forgetWait post u p0 = (vp_in p0 12 ∧ ∀ a_waitUntil_2, a_waitUntil_2 = vp_updL (xa_waitUntil u) p0.toNatClampNeg (-1) → (∃ n11 : Nat, cx_forgetWait_11 post p0 n11 0 (xs_waitUntil u a_waitUntil_2))) := sorry
theorem ux_enter_110 (post : SX → Prop) (x4 : Int32) (x5 : Int32) (x6 : Int32) (u : SX) : cx_enter_110 post x4 x5 x6 u = (((x6 ≤ 1 → (post u)) ∧ (¬ x6 ≤ 1 → (vp_in ((x5 * 6) + 1) 288 ∧ ∀ a_variables_20, a_variables_20 = upd (xa_variables u) ((x5 * 6) + 1).toNatClampNeg x4 → (post (xs_variables u a_variables_20)))))) := sorry
theorem ux_enter_54 (post : SX → Prop) (x2 : Int32) (x3 : Int32) (x4 : Int32) (x5 : Int32) (n : Nat) (x6 : Int32) (u : SX) : cx_enter_54 post x2 x3 x4 x5 (n + 1) x6 u = (((6 ≤ x6 → (vp_in x2 30 ∧ (vp_in ((xa_functionLine u) x2.toNatClampNeg) 60 ∧ (∀ x6_16, x6_16 = (xa_argA u) ((xa_functionLine u) x2.toNatClampNeg).toNatClampNeg → (((x6_16 ≤ 0 → (cx_enter_110 post x4 x5 x6_16 u)) ∧ (¬ x6_16 ≤ 0 → (vp_in (x5 * 6) 288 ∧ ∀ a_variables_22, a_variables_22 = upd (xa_variables u) (x5 * 6).toNatClampNeg x3 → (cx_enter_110 post x4 x5 x6_16 (xs_variables u a_variables_22)))))))))) ∧ (¬ 6 ≤ x6 → (vp_in ((x5 * 6) + x6) 288 ∧ ∀ a_variables_24, a_variables_24 = upd (xa_variables u) ((x5 * 6) + x6).toNatClampNeg 0 → (∀ x6_25, x6_25 = x6 + 1 → (cx_enter_54 post x2 x3 x4 x5 n x6_25 (xs_variables u a_variables_24))))))) := sorry
theorem ux_enter (post : SX → Prop) (u : SX) (p0 : Int32) (p1 : Int32) (p2 : Int32) (p3 : Int32) : wpX_enter post u p0 p1 p2 p3 = (vp_in p0 12 ∧ (∀ x5_2, x5_2 = (p0 * 4) + ((xa_depth u) p0.toNatClampNeg) → (vp_in p0 12 ∧ (vp_in p0 12 ∧ ∀ a_depth_5, a_depth_5 = upd (xa_depth u) p0.toNatClampNeg (((xa_depth u) p0.toNatClampNeg) + 1) → (vp_in p1 30 ∧ (vp_in x5_2 48 ∧ ∀ a_position_8, a_position_8 = upd (xa_position u) x5_2.toNatClampNeg ((xa_functionLine u) p1.toNatClampNeg) → (vp_in x5_2 48 ∧ ∀ a_mode_10, a_mode_10 = upd (xa_mode u) x5_2.toNatClampNeg 0 → (vp_in x5_2 48 ∧ ∀ a_noteCount_12, a_noteCount_12 = upd (xa_noteCount u) x5_2.toNatClampNeg 0 → (∃ n54 : Nat, cx_enter_54 post p1 p2 p3 x5_2 n54 0 (xs_noteCount (xs_mode (xs_position (xs_depth u a_depth_5) a_position_8) a_mode_10) a_noteCount_12)))))))))) := sorry
theorem ux_startGoroutine (post : Int32 → SX → Prop) (u : SX) (p0 : Int32) (p1 : Int32) (p2 : Int32) : wpX_startGoroutine post u p0 p1 p2 = (∀ f_goroutineCount_1, f_goroutineCount_1 = (xa_goroutineCount u) + 1 → (vp_in (xa_goroutineCount u) 12 ∧ ∀ a_status_3, a_status_3 = upd (xa_status u) (xa_goroutineCount u).toNatClampNeg 0 → (vp_in (xa_goroutineCount u) 12 ∧ ∀ a_depth_5, a_depth_5 = upd (xa_depth u) (xa_goroutineCount u).toNatClampNeg 0 → (wpX_forgetWait (fun u7 => (wpX_enter (fun u48 => (post (xa_goroutineCount u) u48)) u7 (xa_goroutineCount u) p0 p1 p2)) (xs_depth (xs_status (xs_goroutineCount u f_goroutineCount_1) a_status_3) a_depth_5) (xa_goroutineCount u))))) := sorry
theorem ux_check (post : Int32 → SX → Prop) (u : SX) : wpX_check post u = (wpX_endProgram (fun u2 => (wpX_formFault (fun r_42 u43 => (((r_42 = (-1) → (wpX_calleeFault (fun r_84 => (((r_84 = (-1) → (wpX_unsetFault (fun r_126 u127 => (((r_126 = (-1) → (wpX_startGoroutine (fun r_168 u169 => (post 0 (xs_running (xs_state u169 1) r_168))) (xs_foundLine u127 r_126) 0 0 0)) ∧ (¬ r_126 = (-1) → (post 3 (xs_foundLine u127 r_126)))))) (xs_foundLine u43 r_84))) ∧ (¬ r_84 = (-1) → (post 2 (xs_foundLine u43 r_84)))))) (xs_foundLine u43 r_42))) ∧ (¬ r_42 = (-1) → (post 1 (xs_foundLine u43 r_42)))))) u2)) u) := sorry
theorem ux_badLine (post : Int32 → Prop) (u : SX) : wpX_badLine post u = (post (xa_foundLine u)) := sorry
theorem ux_topOf (post : Int32 → Prop) (u : SX) (p0 : Int32) : wpX_topOf post u p0 = (vp_in p0 12 ∧ (post (((p0 * 4) + ((xa_depth u) p0.toNatClampNeg)) - 1))) := sorry
theorem ux_valueOf (post : Int32 → Prop) (u : SX) (p0 : Int32) (p1 : Int32) : wpX_valueOf post u p0 p1 = (((0 ≤ p1 → (((6 ≤ p1 → (post (p1 - 6))) ∧ (¬ 6 ≤ p1 → (vp_in ((p0 * 6) + p1) 288 ∧ (post ((xa_variables u) ((p0 * 6) + p1).toNatClampNeg))))))) ∧ (¬ 0 ≤ p1 → (post p1)))) := sorry
theorem ux_otherPartOf (post : Int32 → Prop) (u : SX) (p0 : Int32) : wpX_otherPartOf post u p0 = (vp_in p0 60 ∧ (((((xa_elseOf u) p0.toNatClampNeg) = (-1) → (vp_in p0 60 ∧ (post ((xa_endOf u) p0.toNatClampNeg)))) ∧ (¬ ((xa_elseOf u) p0.toNatClampNeg) = (-1) → (vp_in p0 60 ∧ (post (((xa_elseOf u) p0.toNatClampNeg) + 1))))))) := sorry
theorem ux_isSendOf (post : Int32 → Prop) (u : SX) (p0 : Int32) (p1 : Int32) : wpX_isSendOf post u p0 p1 = (((p1 = p0 → (vp_in p1 60 ∧ (((((xa_kinds u) p1.toNatClampNeg) = 10 → (post 1)) ∧ (¬ ((xa_kinds u) p1.toNatClampNeg) = 10 → (post 0)))))) ∧ (¬ p1 = p0 → (vp_in p1 60 ∧ (((((xa_blockOf u) p1.toNatClampNeg) = p0 → (vp_in p1 60 ∧ (((((xa_kinds u) p1.toNatClampNeg) = 7 → (post 1)) ∧ (¬ ((xa_kinds u) p1.toNatClampNeg) = 7 → (post 0)))))) ∧ (¬ ((xa_blockOf u) p1.toNatClampNeg) = p0 → (post 0)))))))) := sorry
theorem ux_isChannel (post : Int32 → Prop) (u : SX) (p0 : Int32) : wpX_isChannel post u p0 = (((p0 < 1 → (post 0)) ∧ (¬ p0 < 1 → ((((xa_channelCount u) < p0 → (post 0)) ∧ (¬ (xa_channelCount u) < p0 → (post 1))))))) := sorry
theorem ux_longestWaiting_4 (post : Int32 → Prop) (x1 : Int32) (u : SX) (n : Nat) (x2 : Int32) (x3 : Int32) : cx_longestWaiting_4 post x1 u (n + 1) x2 x3 = (((((xa_goroutineCount u) * 3) ≤ x3 → (post x2)) ∧ (¬ ((xa_goroutineCount u) * 3) ≤ x3 → (vp_in x3 36 ∧ (((((xa_slotWish u) x3.toNatClampNeg) = x1 → (((x2 = (-1) → (∀ x3_6, x3_6 = x3 + 1 → (cx_longestWaiting_4 post x1 u n x3 x3_6))) ∧ (¬ x2 = (-1) → (¬ (3 : Int32) = 0 ∧ (vp_in (x3 / 3) 12 ∧ (¬ (3 : Int32) = 0 ∧ (vp_in (x2 / 3) 12 ∧ (((((xa_waitOrder u) (x2 / 3).toNatClampNeg) ≤ ((xa_waitOrder u) (x3 / 3).toNatClampNeg) → (∀ x3_12, x3_12 = x3 + 1 → (cx_longestWaiting_4 post x1 u n x2 x3_12))) ∧ (¬ ((xa_waitOrder u) (x2 / 3).toNatClampNeg) ≤ ((xa_waitOrder u) (x3 / 3).toNatClampNeg) → (∀ x3_13, x3_13 = x3 + 1 → (cx_longestWaiting_4 post x1 u n x3 x3_13))))))))))))) ∧ (¬ ((xa_slotWish u) x3.toNatClampNeg) = x1 → (∀ x3_4, x3_4 = x3 + 1 → (cx_longestWaiting_4 post x1 u n x2 x3_4))))))))) := sorry
theorem ux_longestWaiting (post : Int32 → Prop) (u : SX) (p0 : Int32) : wpX_longestWaiting post u p0 = (∃ n4 : Nat, cx_longestWaiting_4 post p0 u n4 (-1) 0) := sorry
theorem ux_setReceived (post : SX → Prop) (u : SX) (p0 : Int32) (p1 : Int32) (p2 : Int32) (p3 : Int32) : wpX_setReceived post u p0 p1 p2 p3 = (wpX_topOf (fun r_1 => (vp_in p1 60 ∧ (vp_in ((r_1 * 6) + ((xa_argA u) p1.toNatClampNeg)) 288 ∧ ∀ a_variables_44, a_variables_44 = upd (xa_variables u) ((r_1 * 6) + ((xa_argA u) p1.toNatClampNeg)).toNatClampNeg p2 → (vp_in p1 60 ∧ (vp_in ((r_1 * 6) + ((xa_argC u) p1.toNatClampNeg)) 288 ∧ ∀ a_variables_47, a_variables_47 = upd a_variables_44 ((r_1 * 6) + ((xa_argC u) p1.toNatClampNeg)).toNatClampNeg p3 → (post (xs_variables u a_variables_47))))))) u p0) := sorry
theorem ux_enqueue (post : SX → Prop) (u : SX) (p0 : Int32) : wpX_enqueue post u p0 = (vp_in (xa_queueLength u) 12 ∧ ∀ a_queue_2, a_queue_2 = upd (xa_queue u) (xa_queueLength u).toNatClampNeg p0 → (∀ f_queueLength_3, f_queueLength_3 = (xa_queueLength u) + 1 → (post (xs_queue (xs_queueLength u f_queueLength_3) a_queue_2)))) := sorry
theorem ux_stopWaiting (post : SX → Prop) (u : SX) (p0 : Int32) (p1 : Int32) (p2 : Int32) : wpX_stopWaiting post u p0 p1 p2 = (wpX_topOf (fun r_1 => (vp_in r_1 48 ∧ ∀ a_position_43, a_position_43 = upd (xa_position u) r_1.toNatClampNeg (p1 + 1) → (vp_in p0 12 ∧ ∀ a_status_45, a_status_45 = upd (xa_status u) p0.toNatClampNeg p2 → (wpX_forgetWait (fun u47 => (wpX_enqueue (fun u88 => (post u88)) u47 p0)) (xs_position (xs_status u a_status_45) a_position_43) p0)))) u p0) := sorry
theorem ux_addValue (post : SX → Prop) (u : SX) (p0 : Int32) (p1 : Int32) : wpX_addValue post u p0 p1 = (vp_in (p0 - 1) 8 ∧ (vp_in (((p0 - 1) * 3) + ((xa_fill u) (p0 - 1).toNatClampNeg)) 24 ∧ ∀ a_held_3, a_held_3 = upd (xa_held u) (((p0 - 1) * 3) + ((xa_fill u) (p0 - 1).toNatClampNeg)).toNatClampNeg p1 → (vp_in (p0 - 1) 8 ∧ (vp_in (p0 - 1) 8 ∧ ∀ a_fill_6, a_fill_6 = upd (xa_fill u) (p0 - 1).toNatClampNeg (((xa_fill u) (p0 - 1).toNatClampNeg) + 1) → (post (xs_held (xs_fill u a_fill_6) a_held_3)))))) := sorry
theorem ux_trySend (post : Int32 → SX → Prop) (u : SX) (p0 : Int32) (p1 : Int32) : wpX_trySend post u p0 p1 = (vp_in p1 60 ∧ (wpX_valueOf (fun r_2 => (vp_in p1 60 ∧ (wpX_valueOf (fun r_44 => (wpX_isChannel (fun r_85 => (((r_85 = 0 → (post 1 u)) ∧ (¬ r_85 = 0 → (vp_in (r_2 - 1) 8 ∧ (((((xa_closed u) (r_2 - 1).toNatClampNeg) = 0 → (wpX_longestWaiting (fun r_129 => (((r_129 = (-1) → (vp_in (r_2 - 1) 8 ∧ (vp_in (r_2 - 1) 8 ∧ (((((xa_capacity u) (r_2 - 1).toNatClampNeg) ≤ ((xa_fill u) (r_2 - 1).toNatClampNeg) → (post 1 u)) ∧ (¬ ((xa_capacity u) (r_2 - 1).toNatClampNeg) ≤ ((xa_fill u) (r_2 - 1).toNatClampNeg) → (wpX_addValue (fun u175 => (post 0 u175)) u r_2 r_44))))))) ∧ (¬ r_129 = (-1) → (¬ (3 : Int32) = 0 ∧ (∀ x6_216, x6_216 = r_129 / 3 → (vp_in r_129 36 ∧ (wpX_setReceived (fun u219 => (vp_in r_129 36 ∧ (wpX_stopWaiting (fun u261 => (post 0 u261)) u219 x6_216 ((xa_slotLine u219) r_129.toNatClampNeg) 0))) u x6_216 ((xa_slotLine u) r_129.toNatClampNeg) r_44 1)))))))) u r_2)) ∧ (¬ ((xa_closed u) (r_2 - 1).toNatClampNeg) = 0 → (post 2 u))))))))) u r_2)) u p0 ((xa_argB u) p1.toNatClampNeg)))) u p0 ((xa_argA u) p1.toNatClampNeg))) := sorry
theorem ux_isReceiveOf (post : Int32 → Prop) (u : SX) (p0 : Int32) (p1 : Int32) : wpX_isReceiveOf post u p0 p1 = (((p1 = p0 → (vp_in p1 60 ∧ (((((xa_kinds u) p1.toNatClampNeg) = 11 → (post 1)) ∧ (¬ ((xa_kinds u) p1.toNatClampNeg) = 11 → (post 0)))))) ∧ (¬ p1 = p0 → (vp_in p1 60 ∧ (((((xa_blockOf u) p1.toNatClampNeg) = p0 → (vp_in p1 60 ∧ (((((xa_kinds u) p1.toNatClampNeg) = 8 → (post 1)) ∧ (¬ ((xa_kinds u) p1.toNatClampNeg) = 8 → (post 0)))))) ∧ (¬ ((xa_blockOf u) p1.toNatClampNeg) = p0 → (post 0)))))))) := sorry
theorem ux_takeOldest_28 (post : Int32 → SX → Prop) (x1 : Int32) (x2 : Int32) (x3 : Int32) (n : Nat) (x4 : Int32) (u : SX) : cx_takeOldest_28 post x1 x2 x3 (n + 1) x4 u = (vp_in (x1 - 1) 8 ∧ (((((xa_fill u) (x1 - 1).toNatClampNeg) ≤ x4 → (post x3 u)) ∧ (¬ ((xa_fill u) (x1 - 1).toNatClampNeg) ≤ x4 → (vp_in ((x2 + x4) + 1) 24 ∧ (vp_in (x2 + x4) 24 ∧ ∀ a_held_11, a_held_11 = upd (xa_held u) (x2 + x4).toNatClampNeg ((xa_held u) ((x2 + x4) + 1).toNatClampNeg) → (∀ x4_12, x4_12 = x4 + 1 → (cx_takeOldest_28 post x1 x2 x3 n x4_12 (xs_held u a_held_11))))))))) := sorry
theorem ux_takeOldest (post : Int32 → SX → Prop) (u : SX) (p0 : Int32) : wpX_takeOldest post u p0 = (∀ x2_1, x2_1 = (p0 - 1) * 3 → (vp_in x2_1 24 ∧ (∀ x3_3, x3_3 = (xa_held u) x2_1.toNatClampNeg → (vp_in (p0 - 1) 8 ∧ (vp_in (p0 - 1) 8 ∧ ∀ a_fill_6, a_fill_6 = upd (xa_fill u) (p0 - 1).toNatClampNeg (((xa_fill u) (p0 - 1).toNatClampNeg) - 1) → (∃ n28 : Nat, cx_takeOldest_28 post p0 x2_1 x3_3 n28 0 (xs_fill u a_fill_6))))))) := sorry
theorem ux_senderValue (post : Int32 → Prop) (u : SX) (p0 : Int32) : wpX_senderValue post u p0 = (¬ (3 : Int32) = 0 ∧ (wpX_topOf (fun r_2 => (vp_in p0 36 ∧ (vp_in ((xa_slotLine u) p0.toNatClampNeg) 60 ∧ (wpX_valueOf (fun r_45 => (post r_45)) u r_2 ((xa_argB u) ((xa_slotLine u) p0.toNatClampNeg).toNatClampNeg))))) u (p0 / 3))) := sorry
theorem ux_tryReceive (post : Int32 → SX → Prop) (u : SX) (p0 : Int32) (p1 : Int32) : wpX_tryReceive post u p0 p1 = (vp_in p1 60 ∧ (wpX_valueOf (fun r_2 => (wpX_isChannel (fun r_43 => (((r_43 = 0 → (post 1 u)) ∧ (¬ r_43 = 0 → (wpX_longestWaiting (fun r_85 => (vp_in (r_2 - 1) 8 ∧ (((((xa_fill u) (r_2 - 1).toNatClampNeg) ≤ 0 → (((r_85 = (-1) → (vp_in (r_2 - 1) 8 ∧ (((((xa_closed u) (r_2 - 1).toNatClampNeg) = 0 → (post 1 u)) ∧ (¬ ((xa_closed u) (r_2 - 1).toNatClampNeg) = 0 → (wpX_setReceived (fun u132 => (post 0 u132)) u (xa_running u) p1 0 0)))))) ∧ (¬ r_85 = (-1) → (wpX_senderValue (fun r_172 => (wpX_setReceived (fun u214 => (¬ (3 : Int32) = 0 ∧ (vp_in r_85 36 ∧ (wpX_stopWaiting (fun u257 => (post 0 u257)) u214 (r_85 / 3) ((xa_slotLine u214) r_85.toNatClampNeg) 0)))) u (xa_running u) p1 r_172 1)) u r_85))))) ∧ (¬ ((xa_fill u) (r_2 - 1).toNatClampNeg) ≤ 0 → (wpX_takeOldest (fun r_297 u298 => (wpX_setReceived (fun u339 => (((r_85 = (-1) → (post 0 u339)) ∧ (¬ r_85 = (-1) → (wpX_senderValue (fun r_380 => (wpX_addValue (fun u422 => (¬ (3 : Int32) = 0 ∧ (vp_in r_85 36 ∧ (wpX_stopWaiting (fun u465 => (post 0 u465)) u422 (r_85 / 3) ((xa_slotLine u422) r_85.toNatClampNeg) 0)))) u339 r_2 r_380)) u339 r_85))))) u298 (xa_running u298) p1 r_297 1)) u r_2)))))) u (-r_2)))))) u r_2)) u p0 ((xa_argB u) p1.toNatClampNeg))) := sorry
theorem ux_panic (post : SX → Prop) (u : SX) (p0 : Int32) (p1 : Int32) : wpX_panic post u p0 p1 = (vp_in p0 48 ∧ ∀ a_mode_2, a_mode_2 = upd (xa_mode u) p0.toNatClampNeg 2 → (vp_in p0 48 ∧ ∀ a_panicOf_4, a_panicOf_4 = upd (xa_panicOf u) p0.toNatClampNeg p1 → (post (xs_panicOf (xs_mode u a_mode_2) a_panicOf_4)))) := sorry
theorem ux_alternativeOf_4 (post : Int32 → Prop) (x1 : Int32) (u : SX) (n : Nat) (x2 : Int32) : cx_alternativeOf_4 post x1 u (n + 1) x2 = (vp_in x1 60 ∧ (((((xa_endOf u) x1.toNatClampNeg) ≤ x2 → (post (-1))) ∧ (¬ ((xa_endOf u) x1.toNatClampNeg) ≤ x2 → (vp_in x2 60 ∧ (((((xa_blockOf u) x2.toNatClampNeg) = x1 → (vp_in x2 60 ∧ (wpX_isAlternative (fun r_8 => (((r_8 = 0 → (∀ x2_50, x2_50 = x2 + 1 → (cx_alternativeOf_4 post x1 u n x2_50))) ∧ (¬ r_8 = 0 → (post x2))))) u ((xa_kinds u) x2.toNatClampNeg)))) ∧ (¬ ((xa_blockOf u) x2.toNatClampNeg) = x1 → (∀ x2_6, x2_6 = x2 + 1 → (cx_alternativeOf_4 post x1 u n x2_6)))))))))) := sorry
theorem ux_alternativeOf (post : Int32 → Prop) (u : SX) (p0 : Int32) : wpX_alternativeOf post u p0 = (∀ x2_1, x2_1 = p0 + 1 → (∃ n4 : Nat, cx_alternativeOf_4 post p0 u n4 x2_1)) := sorry
theorem ux_offerCases_83 (post : SX → Prop) (J11 : Int32 → Int32 → SX → Prop) (x1 : Int32) (x2 : Int32) (x3 : Int32) (x4 : Int32) (x5 : Int32) (x7 : Int32) (z0 : Int32) (u : SX) : cx_offerCases_83 post J11 x1 x2 x3 x4 x5 x7 z0 u = (vp_in x4 36 ∧ ∀ a_slotLine_90, a_slotLine_90 = upd (xa_slotLine u) x4.toNatClampNeg x5 → (wpX_isChannel (fun r_91 => (((r_91 = 0 → (vp_in x4 36 ∧ ∀ a_slotWish_134, a_slotWish_134 = upd (xa_slotWish u) x4.toNatClampNeg 0 → (∀ x4_135, x4_135 = x4 + 1 → (∀ x5_136, x5_136 = x5 + 1 → (J11 x4_135 x5_136 (xs_slotLine (xs_slotWish u a_slotWish_134) a_slotLine_90)))))) ∧ (¬ r_91 = 0 → (vp_in x4 36 ∧ ∀ a_slotWish_138, a_slotWish_138 = upd (xa_slotWish u) x4.toNatClampNeg z0 → (∀ x4_139, x4_139 = x4 + 1 → (∀ x5_140, x5_140 = x5 + 1 → (J11 x4_139 x5_140 (xs_slotLine (xs_slotWish u a_slotWish_138) a_slotLine_90))))))))) (xs_slotLine u a_slotLine_90) x7)) := sorry
theorem ux_offerCases_65 (post : SX → Prop) (J11 : Int32 → Int32 → SX → Prop) (x1 : Int32) (x2 : Int32) (x3 : Int32) (x4 : Int32) (x5 : Int32) (x6 : Int32) (z0 : Int32) (z1 : Int32) (u : SX) : cx_offerCases_65 post J11 x1 x2 x3 x4 x5 x6 z0 z1 u = (wpX_valueOf (fun r_47 => (((x6 = 0 → (cx_offerCases_83 post J11 x1 x2 x3 x4 x5 r_47 r_47 u)) ∧ (¬ x6 = 0 → (cx_offerCases_83 post J11 x1 x2 x3 x4 x5 r_47 (-r_47) u))))) u z1 z0) := sorry
theorem ux_offerCases_41 (post : SX → Prop) (J11 : Int32 → Int32 → SX → Prop) (x1 : Int32) (x2 : Int32) (x3 : Int32) (x4 : Int32) (x5 : Int32) (x6 : Int32) (u : SX) : cx_offerCases_41 post J11 x1 x2 x3 x4 x5 x6 u = (((x6 = 0 → (vp_in x5 60 ∧ (cx_offerCases_65 post J11 x1 x2 x3 x4 x5 x6 ((xa_argB u) x5.toNatClampNeg) x1 u))) ∧ (¬ x6 = 0 → (vp_in x5 60 ∧ (cx_offerCases_65 post J11 x1 x2 x3 x4 x5 x6 ((xa_argA u) x5.toNatClampNeg) x1 u))))) := sorry
theorem ux_offerCases_11 (post : SX → Prop) (x1 : Int32) (x2 : Int32) (x3 : Int32) (n : Nat) (x4 : Int32) (x5 : Int32) (u : SX) : cx_offerCases_11 post x1 x2 x3 (n + 1) x4 x5 u = (((x3 < x5 → (post u)) ∧ (¬ x3 < x5 → (wpX_isSendOf (fun r_3 => (((r_3 = 0 → (wpX_isReceiveOf (fun r_142 => (((r_142 = 0 → (∀ x5_184, x5_184 = x5 + 1 → (cx_offerCases_11 post x1 x2 x3 n x4 x5_184 u))) ∧ (¬ r_142 = 0 → (cx_offerCases_41 post (cx_offerCases_11 post x1 x2 x3 n) x1 x2 x3 x4 x5 r_3 u))))) u x2 x5)) ∧ (¬ r_3 = 0 → (cx_offerCases_41 post (cx_offerCases_11 post x1 x2 x3 n) x1 x2 x3 x4 x5 r_3 u))))) u x2 x5)))) := sorry
theorem ux_offerCases (post : SX → Prop) (u : SX) (p0 : Int32) (p1 : Int32) (p2 : Int32) : wpX_offerCases post u p0 p1 p2 = (∀ x4_1, x4_1 = (xa_running u) * 3 → (∃ n11 : Nat, cx_offerCases_11 post p0 p1 p2 n11 x4_1 p1 u)) := sorry
theorem ux_beginWait (post : SX → Prop) (u : SX) (p0 : Int32) (p1 : Int32) (p2 : Int64) : wpX_beginWait post u p0 p1 p2 = (vp_in p0 48 ∧ ∀ a_position_2, a_position_2 = upd (xa_position u) p0.toNatClampNeg p1 → (vp_in (xa_running u) 12 ∧ ∀ a_status_4, a_status_4 = upd (xa_status u) (xa_running u).toNatClampNeg 2 → (vp_in (xa_running u) 12 ∧ ∀ a_waitUntil_6, a_waitUntil_6 = vp_updL (xa_waitUntil u) (xa_running u).toNatClampNeg p2 → (vp_in (xa_running u) 12 ∧ ∀ a_waitOrder_8, a_waitOrder_8 = upd (xa_waitOrder u) (xa_running u).toNatClampNeg (xa_waitsBegun u) → (∀ f_waitsBegun_9, f_waitsBegun_9 = (xa_waitsBegun u) + 1 → (post (xs_position (xs_waitUntil (xs_waitOrder (xs_status (xs_running (xs_waitsBegun u f_waitsBegun_9) (-1)) a_status_4) a_waitOrder_8) a_waitUntil_6) a_position_2))))))) := sorry
theorem ux_enterAlternativeOrWait_89 (post : SX → Prop) (x1 : Int32) (x2 : Int32) (x3 : Int32) (x5 : Int64) (u : SX) : cx_enterAlternativeOrWait_89 post x1 x2 x3 x5 u = (wpX_offerCases (fun u5 => (wpX_beginWait (fun u46 => (post u46)) u5 x1 x2 x5)) u x1 x2 x3) := sorry
theorem ux_enterAlternativeOrWait_61 (post : SX → Prop) (x1 : Int32) (x2 : Int32) (x3 : Int32) (x4 : Int32) (z0 : Int32) (u : SX) : cx_enterAlternativeOrWait_61 post x1 x2 x3 x4 z0 u = (((0 < z0 → (∀ x5_89, x5_89 = (xa_time u) + z0.toInt64 → (cx_enterAlternativeOrWait_89 post x1 x2 x3 x5_89 u))) ∧ (¬ 0 < z0 → (vp_in x1 48 ∧ ∀ a_position_91, a_position_91 = upd (xa_position u) x1.toNatClampNeg (x4 + 1) → (post (xs_position u a_position_91)))))) := sorry
theorem ux_enterAlternativeOrWait_20 (post : SX → Prop) (x1 : Int32) (x2 : Int32) (x3 : Int32) (z0 : Int32) (u : SX) : cx_enterAlternativeOrWait_20 post x1 x2 x3 z0 u = (((z0 = (-1) → (cx_enterAlternativeOrWait_89 post x1 x2 x3 (-1) u)) ∧ (¬ z0 = (-1) → (vp_in z0 60 ∧ (((((xa_kinds u) z0.toNatClampNeg) = 29 → (vp_in z0 60 ∧ (wpX_valueOf (fun r_93 => (cx_enterAlternativeOrWait_61 post x1 x2 x3 z0 r_93 u)) u x1 ((xa_argA u) z0.toNatClampNeg)))) ∧ (¬ ((xa_kinds u) z0.toNatClampNeg) = 29 → (cx_enterAlternativeOrWait_61 post x1 x2 x3 z0 0 u)))))))) := sorry
theorem ux_enterAlternativeOrWait (post : SX → Prop) (u : SX) (p0 : Int32) (p1 : Int32) (p2 : Int32) : wpX_enterAlternativeOrWait post u p0 p1 p2 = (vp_in p1 60 ∧ (((((xa_kinds u) p1.toNatClampNeg) = 6 → (wpX_alternativeOf (fun r_134 => (cx_enterAlternativeOrWait_20 post p0 p1 p2 r_134 u)) u p1)) ∧ (¬ ((xa_kinds u) p1.toNatClampNeg) = 6 → (cx_enterAlternativeOrWait_20 post p0 p1 p2 (-1) u))))) := sorry
theorem ux_communicate_75 (post : SX → Prop) (J25 : Int32 → SX → Prop) (x1 : Int32) (x2 : Int32) (x3 : Int32) (x4 : Int32) (x5 : Int32) (u : SX) : cx_communicate_75 post J25 x1 x2 x3 x4 x5 u = (((x5 = 0 → (vp_in x1 48 ∧ ∀ a_position_174, a_position_174 = upd (xa_position u) x1.toNatClampNeg (x4 + 1) → (post (xs_position u a_position_174)))) ∧ (¬ x5 = 0 → (((x5 = 2 → (wpX_panic (fun u133 => (post u133)) u x1 (-1))) ∧ (¬ x5 = 2 → (∀ x4_131, x4_131 = x4 + 1 → (J25 x4_131 u)))))))) := sorry
theorem ux_communicate_25 (post : SX → Prop) (x1 : Int32) (x2 : Int32) (x3 : Int32) (n : Nat) (x4 : Int32) (u : SX) : cx_communicate_25 post x1 x2 x3 (n + 1) x4 u = (((x3 < x4 → (wpX_enterAlternativeOrWait (fun u5 => (post u5)) u x1 x2 x3)) ∧ (¬ x3 < x4 → (wpX_isSendOf (fun r_45 => (((r_45 = 0 → (wpX_isReceiveOf (fun r_87 => (((r_87 = 0 → (cx_communicate_75 post (cx_communicate_25 post x1 x2 x3 n) x1 x2 x3 x4 1 u)) ∧ (¬ r_87 = 0 → (wpX_tryReceive (fun r_175 u176 => (cx_communicate_75 post (cx_communicate_25 post x1 x2 x3 n) x1 x2 x3 x4 r_175 u176)) u x1 x4))))) u x2 x4)) ∧ (¬ r_45 = 0 → (wpX_trySend (fun r_216 u217 => (cx_communicate_75 post (cx_communicate_25 post x1 x2 x3 n) x1 x2 x3 x4 r_216 u217)) u x1 x4))))) u x2 x4)))) := sorry
theorem ux_communicate (post : SX → Prop) (u : SX) (p0 : Int32) (p1 : Int32) : wpX_communicate post u p0 p1 = (vp_in p1 60 ∧ (((((xa_kinds u) p1.toNatClampNeg) = 6 → (vp_in p1 60 ∧ (∀ x3_258, x3_258 = (xa_endOf u) p1.toNatClampNeg → (∃ n25 : Nat, cx_communicate_25 post p0 p1 x3_258 n25 p1 u)))) ∧ (¬ ((xa_kinds u) p1.toNatClampNeg) = 6 → (∃ n25 : Nat, cx_communicate_25 post p0 p1 p1 n25 p1 u))))) := sorry
theorem ux_closeChannel_19 (post : SX → Prop) (x1 : Int32) (u : SX) : cx_closeChannel_19 post x1 u = (wpX_panic (fun u44 => (post u44)) u x1 (-1)) := sorry
theorem ux_closeChannel_99 (post : SX → Prop) (x2 : Int32) (n : Nat) (x3 : Int32) (u : SX) : cx_closeChannel_99 post x2 (n + 1) x3 u = (((12 ≤ x3 → (post u)) ∧ (¬ 12 ≤ x3 → (wpX_longestWaiting (fun r_90 => (((r_90 = (-1) → (∀ x3_132, x3_132 = x3 + 1 → (cx_closeChannel_99 post x2 n x3_132 u))) ∧ (¬ r_90 = (-1) → (¬ (3 : Int32) = 0 ∧ (vp_in r_90 36 ∧ (wpX_stopWaiting (fun u136 => (∀ x3_176, x3_176 = x3 + 1 → (cx_closeChannel_99 post x2 n x3_176 u136))) u (r_90 / 3) ((xa_slotLine u) r_90.toNatClampNeg) 1))))))) u (-x2))))) := sorry
theorem ux_closeChannel_37 (post : SX → Prop) (x2 : Int32) (n : Nat) (x3 : Int32) (u : SX) : cx_closeChannel_37 post x2 (n + 1) x3 u = (((12 ≤ x3 → (∃ n99 : Nat, cx_closeChannel_99 post x2 n99 0 u)) ∧ (¬ 12 ≤ x3 → (wpX_longestWaiting (fun r_177 => (((r_177 = (-1) → (∀ x3_219, x3_219 = x3 + 1 → (cx_closeChannel_37 post x2 n x3_219 u))) ∧ (¬ r_177 = (-1) → (¬ (3 : Int32) = 0 ∧ (∀ x5_221, x5_221 = r_177 / 3 → (vp_in r_177 36 ∧ (wpX_setReceived (fun u224 => (vp_in r_177 36 ∧ (wpX_stopWaiting (fun u266 => (∀ x3_306, x3_306 = x3 + 1 → (cx_closeChannel_37 post x2 n x3_306 u266))) u224 x5_221 ((xa_slotLine u224) r_177.toNatClampNeg) 0))) u x5_221 ((xa_slotLine u) r_177.toNatClampNeg) 0 0)))))))) u x2)))) := sorry
theorem ux_closeChannel (post : SX → Prop) (u : SX) (p0 : Int32) (p1 : Int32) : wpX_closeChannel post u p0 p1 = (wpX_isChannel (fun r_1 => (((r_1 = 0 → (cx_closeChannel_19 post p0 u)) ∧ (¬ r_1 = 0 → (vp_in (p1 - 1) 8 ∧ (((((xa_closed u) (p1 - 1).toNatClampNeg) = 0 → (vp_in (p1 - 1) 8 ∧ ∀ a_closed_87, a_closed_87 = upd (xa_closed u) (p1 - 1).toNatClampNeg (vp_nar .boolean 1) → (∃ n37 : Nat, cx_closeChannel_37 post p1 n37 0 (xs_closed u a_closed_87)))) ∧ (¬ ((xa_closed u) (p1 - 1).toNatClampNeg) = 0 → (cx_closeChannel_19 post p0 u))))))))) u p1) := sorry
theorem ux_makeChannel (post : SX → Prop) (u : SX) (p0 : Int32) (p1 : Int32) : wpX_makeChannel post u p0 p1 = ((((xa_channelCount u) < 8 → (vp_in p1 60 ∧ (vp_in (xa_channelCount u) 8 ∧ ∀ a_capacity_4, a_capacity_4 = upd (xa_capacity u) (xa_channelCount u).toNatClampNeg ((xa_argB u) p1.toNatClampNeg) → (vp_in (xa_channelCount u) 8 ∧ ∀ a_fill_6, a_fill_6 = upd (xa_fill u) (xa_channelCount u).toNatClampNeg 0 → (vp_in (xa_channelCount u) 8 ∧ ∀ a_closed_8, a_closed_8 = upd (xa_closed u) (xa_channelCount u).toNatClampNeg (vp_nar .boolean 0) → (∀ f_channelCount_9, f_channelCount_9 = (xa_channelCount u) + 1 → (vp_in p1 60 ∧ (vp_in ((p0 * 6) + ((xa_argA u) p1.toNatClampNeg)) 288 ∧ ∀ a_variables_12, a_variables_12 = upd (xa_variables u) ((p0 * 6) + ((xa_argA u) p1.toNatClampNeg)).toNatClampNeg f_channelCount_9 → (post (xs_variables (xs_closed (xs_fill (xs_capacity (xs_channelCount u f_channelCount_9) a_capacity_4) a_fill_6) a_closed_8) a_variables_12)))))))))) ∧ (¬ (xa_channelCount u) < 8 → (wpX_panic (fun u14 => (post u14)) u p0 (-4))))) := sorry
theorem ux_startAnother (post : SX → Prop) (u : SX) (p0 : Int32) (p1 : Int32) (p2 : Int32) (p3 : Int32) : wpX_startAnother post u p0 p1 p2 p3 = ((((xa_goroutineCount u) < 12 → (wpX_startGoroutine (fun r_2 u3 => (wpX_enqueue (fun u44 => (post u44)) u3 r_2)) u p1 p2 p3)) ∧ (¬ (xa_goroutineCount u) < 12 → (wpX_panic (fun u85 => (post u85)) u p0 (-2))))) := sorry
theorem ux_call (post : SX → Prop) (u : SX) (p0 : Int32) (p1 : Int32) (p2 : Int32) : wpX_call post u p0 p1 p2 = (vp_in (xa_running u) 12 ∧ (((((xa_depth u) (xa_running u).toNatClampNeg) < 4 → (wpX_enter (fun u4 => (post u4)) u (xa_running u) p0 p1 p2)) ∧ (¬ ((xa_depth u) (xa_running u).toNatClampNeg) < 4 → (post (xs_state u 5)))))) := sorry
theorem ux_note (post : SX → Prop) (u : SX) (p0 : Int32) (p1 : Int32) (p2 : Int32) (p3 : Int32) : wpX_note post u p0 p1 p2 p3 = (vp_in p0 48 ∧ (((((xa_noteCount u) p0.toNatClampNeg) < 3 → (vp_in p0 48 ∧ (∀ x5_4, x5_4 = (p0 * 3) + ((xa_noteCount u) p0.toNatClampNeg) → (vp_in x5_4 144 ∧ ∀ a_noteFunction_6, a_noteFunction_6 = upd (xa_noteFunction u) x5_4.toNatClampNeg p1 → (vp_in (x5_4 * 2) 288 ∧ ∀ a_noteValues_8, a_noteValues_8 = upd (xa_noteValues u) (x5_4 * 2).toNatClampNeg p2 → (vp_in ((x5_4 * 2) + 1) 288 ∧ ∀ a_noteValues_10, a_noteValues_10 = upd a_noteValues_8 ((x5_4 * 2) + 1).toNatClampNeg p3 → (vp_in p0 48 ∧ (vp_in p0 48 ∧ ∀ a_noteCount_13, a_noteCount_13 = upd (xa_noteCount u) p0.toNatClampNeg (((xa_noteCount u) p0.toNatClampNeg) + 1) → (post (xs_noteValues (xs_noteFunction (xs_noteCount u a_noteCount_13) a_noteFunction_6) a_noteValues_10)))))))))) ∧ (¬ ((xa_noteCount u) p0.toNatClampNeg) < 3 → (wpX_panic (fun u15 => (post u15)) u p0 (-5)))))) := sorry
theorem ux_recover_45 (post : SX → Prop) (x1 : Int32) (x2 : Int32) (x3 : Int32) (u : SX) : cx_recover_45 post x1 x2 x3 u = (vp_in x2 60 ∧ (vp_in ((x1 * 6) + ((xa_argA u) x2.toNatClampNeg)) 288 ∧ ∀ a_variables_5, a_variables_5 = upd (xa_variables u) ((x1 * 6) + ((xa_argA u) x2.toNatClampNeg)).toNatClampNeg x3 → (post (xs_variables u a_variables_5)))) := sorry
theorem ux_recover (post : SX → Prop) (u : SX) (p0 : Int32) (p1 : Int32) : wpX_recover post u p0 p1 = (vp_in (xa_running u) 12 ∧ (((((xa_depth u) (xa_running u).toNatClampNeg) ≤ 1 → (cx_recover_45 post p0 p1 0 u)) ∧ (¬ ((xa_depth u) (xa_running u).toNatClampNeg) ≤ 1 → (vp_in (p0 - 1) 48 ∧ (((((xa_mode u) (p0 - 1).toNatClampNeg) = 2 → (vp_in (p0 - 1) 48 ∧ (∀ x3_9, x3_9 = (xa_panicOf u) (p0 - 1).toNatClampNeg → (vp_in (p0 - 1) 48 ∧ ∀ a_mode_11, a_mode_11 = upd (xa_mode u) (p0 - 1).toNatClampNeg 1 → (cx_recover_45 post p0 p1 x3_9 (xs_mode u a_mode_11)))))) ∧ (¬ ((xa_mode u) (p0 - 1).toNatClampNeg) = 2 → (cx_recover_45 post p0 p1 0 u))))))))) := sorry
theorem ux_print (post : SX → Prop) (u : SX) (p0 : Int32) : wpX_print post u p0 = (vp_in ((xa_outputCount u) &&& 31) 32 ∧ ∀ a_outputs_2, a_outputs_2 = upd (xa_outputs u) ((xa_outputCount u) &&& 31).toNatClampNeg p0 → (∀ f_outputCount_3, f_outputCount_3 = (xa_outputCount u) + 1 → (post (xs_outputs (xs_outputCount u f_outputCount_3) a_outputs_2)))) := sorry
theorem ux_sleep (post : SX → Prop) (u : SX) (p0 : Int32) (p1 : Int32) (p2 : Int32) : wpX_sleep post u p0 p1 p2 = (((p2 ≤ 0 → (wpX_enqueue (fun u3 => (post (xs_running u3 (-1)))) u (xa_running u))) ∧ (¬ p2 ≤ 0 → (wpX_beginWait (fun u44 => (post u44)) u p0 p1 ((xa_time u) + p2.toInt64))))) := sorry
theorem ux_compute_129 (post : SX → Prop) (x1 : Int32) (x2 : Int32) (x5 : Int32) (u : SX) : cx_compute_129 post x1 x2 x5 u = (vp_in x2 60 ∧ (vp_in ((x1 * 6) + ((xa_argA u) x2.toNatClampNeg)) 288 ∧ ∀ a_variables_7, a_variables_7 = upd (xa_variables u) ((x1 * 6) + ((xa_argA u) x2.toNatClampNeg)).toNatClampNeg x5 → (post (xs_variables u a_variables_7)))) := sorry
theorem ux_compute_108 (post : SX → Prop) (x1 : Int32) (x2 : Int32) (z0 : Int32) (u : SX) : cx_compute_108 post x1 x2 z0 u = (cx_compute_129 post x1 x2 z0 u) := sorry
theorem ux_compute_124 (post : SX → Prop) (x1 : Int32) (x2 : Int32) (z0 : Int32) (u : SX) : cx_compute_124 post x1 x2 z0 u = (cx_compute_129 post x1 x2 z0 u) := sorry
theorem ux_compute (post : SX → Prop) (u : SX) (p0 : Int32) (p1 : Int32) (p2 : Int32) (p3 : Int32) : wpX_compute post u p0 p1 p2 p3 = (vp_in p1 60 ∧ (∀ k_2, k_2 = (xa_kinds u) p1.toNatClampNeg → (((k_2 < 22 → (cx_compute_129 post p0 p1 p2 u)) ∧ (¬ k_2 < 22 → (((27 < k_2 → (cx_compute_129 post p0 p1 p2 u)) ∧ (¬ 27 < k_2 → (((k_2 = 22 → (∀ x5_9, x5_9 = p2 + p3 → (cx_compute_129 post p0 p1 x5_9 u))) ∧ (¬ k_2 = 22 → (((k_2 = 23 → (∀ x5_11, x5_11 = p2 - p3 → (cx_compute_129 post p0 p1 x5_11 u))) ∧ (¬ k_2 = 23 → (((k_2 = 24 → (∀ x5_13, x5_13 = p2 * p3 → (cx_compute_129 post p0 p1 x5_13 u))) ∧ (¬ k_2 = 24 → (((k_2 = 25 → (((p3 = 0 → (wpX_panic (fun u19 => (post u19)) u p0 (-3))) ∧ (¬ p3 = 0 → (¬ p3 = 0 ∧ (∀ x5_17, x5_17 = p2 / p3 → (cx_compute_129 post p0 p1 x5_17 u))))))) ∧ (¬ k_2 = 25 → (((k_2 = 26 → (((p3 ≤ p2 → (cx_compute_108 post p0 p1 0 u)) ∧ (¬ p3 ≤ p2 → (cx_compute_108 post p0 p1 1 u))))) ∧ (¬ k_2 = 26 → (((k_2 = 27 → (((p2 = p3 → (cx_compute_124 post p0 p1 1 u)) ∧ (¬ p2 = p3 → (cx_compute_124 post p0 p1 0 u))))) ∧ (¬ k_2 = 27 → (True))))))))))))))))))))))))))) := sorry
theorem ux_execute_406 (post : SX → Prop) (x1 : Int32) (x2 : Int32) (x4 : Int32) (x5 : Int32) (u : SX) : cx_execute_406 post x1 x2 x4 x5 u = (wpX_compute (fun u177 => (post u177)) u x1 x2 x4 x5) := sorry
theorem ux_execute_280 (post : SX → Prop) (x1 : Int32) (x2 : Int32) (u : SX) : cx_execute_280 post x1 x2 u = (wpX_communicate (fun u322 => (post u322)) u x1 x2) := sorry
theorem ux_execute (post : SX → Prop) (u : SX) : wpX_execute post u = (wpX_topOf (fun r_1 => (vp_in r_1 48 ∧ (∀ x2_43, x2_43 = (xa_position u) r_1.toNatClampNeg → (vp_in x2_43 60 ∧ (wpX_valueOf (fun r_45 => (vp_in x2_43 60 ∧ (wpX_valueOf (fun r_87 => (vp_in x2_43 60 ∧ (wpX_valueOf (fun r_129 => (vp_in r_1 48 ∧ ∀ a_position_171, a_position_171 = upd (xa_position u) r_1.toNatClampNeg (x2_43 + 1) → (vp_in x2_43 60 ∧ (∀ k_173, k_173 = (xa_kinds u) x2_43.toNatClampNeg → (((k_173 < 0 → (cx_execute_406 post r_1 x2_43 r_87 r_129 (xs_position u a_position_171))) ∧ (¬ k_173 < 0 → (((28 < k_173 → (cx_execute_406 post r_1 x2_43 r_87 r_129 (xs_position u a_position_171))) ∧ (¬ 28 < k_173 → (((k_173 = 0 → (post (xs_position u a_position_171))) ∧ (¬ k_173 = 0 → (((k_173 = 1 → (cx_execute_406 post r_1 x2_43 r_87 r_129 (xs_position u a_position_171))) ∧ (¬ k_173 = 1 → (((k_173 = 2 → (((r_45 = 0 → (wpX_otherPartOf (fun r_221 => (vp_in r_1 48 ∧ ∀ a_position_263, a_position_263 = upd a_position_171 r_1.toNatClampNeg r_221 → (post (xs_position u a_position_263)))) (xs_position u a_position_171) x2_43)) ∧ (¬ r_45 = 0 → (vp_in r_1 48 ∧ ∀ a_position_265, a_position_265 = upd a_position_171 r_1.toNatClampNeg (x2_43 + 1) → (post (xs_position u a_position_265))))))) ∧ (¬ k_173 = 2 → (((k_173 = 3 → (cx_execute_406 post r_1 x2_43 r_87 r_129 (xs_position u a_position_171))) ∧ (¬ k_173 = 3 → (((k_173 = 4 → (((r_45 = 0 → (vp_in x2_43 60 ∧ (vp_in r_1 48 ∧ ∀ a_position_271, a_position_271 = upd a_position_171 r_1.toNatClampNeg (((xa_endOf u) x2_43.toNatClampNeg) + 1) → (post (xs_position u a_position_271))))) ∧ (¬ r_45 = 0 → (vp_in r_1 48 ∧ ∀ a_position_273, a_position_273 = upd a_position_171 r_1.toNatClampNeg (x2_43 + 1) → (post (xs_position u a_position_273))))))) ∧ (¬ k_173 = 4 → (((k_173 = 5 → (vp_in x2_43 60 ∧ (wpX_loopAround (fun r_276 => (vp_in r_276 60 ∧ (vp_in r_1 48 ∧ ∀ a_position_319, a_position_319 = upd a_position_171 r_1.toNatClampNeg (((xa_endOf u) r_276.toNatClampNeg) + 1) → (post (xs_position u a_position_319))))) (xs_position u a_position_171) ((xa_blockOf u) x2_43.toNatClampNeg)))) ∧ (¬ k_173 = 5 → (((k_173 = 6 → (cx_execute_280 post r_1 x2_43 (xs_position u a_position_171))) ∧ (¬ k_173 = 6 → (((k_173 = 7 → (cx_execute_406 post r_1 x2_43 r_87 r_129 (xs_position u a_position_171))) ∧ (¬ k_173 = 7 → (((k_173 = 8 → (cx_execute_406 post r_1 x2_43 r_87 r_129 (xs_position u a_position_171))) ∧ (¬ k_173 = 8 → (((k_173 = 9 → (cx_execute_406 post r_1 x2_43 r_87 r_129 (xs_position u a_position_171))) ∧ (¬ k_173 = 9 → (((k_173 = 10 → (cx_execute_280 post r_1 x2_43 (xs_position u a_position_171))) ∧ (¬ k_173 = 10 → (((k_173 = 11 → (cx_execute_280 post r_1 x2_43 (xs_position u a_position_171))) ∧ (¬ k_173 = 11 → (((k_173 = 12 → (wpX_closeChannel (fun u369 => (post u369)) (xs_position u a_position_171) r_1 r_45)) ∧ (¬ k_173 = 12 → (((k_173 = 13 → (wpX_makeChannel (fun u411 => (post u411)) (xs_position u a_position_171) r_1 x2_43)) ∧ (¬ k_173 = 13 → (((k_173 = 14 → (vp_in x2_43 60 ∧ (wpX_startAnother (fun u454 => (post u454)) (xs_position u a_position_171) r_1 ((xa_argA u) x2_43.toNatClampNeg) r_87 r_129))) ∧ (¬ k_173 = 14 → (((k_173 = 15 → (vp_in x2_43 60 ∧ (wpX_call (fun u497 => (post u497)) (xs_position u a_position_171) ((xa_argA u) x2_43.toNatClampNeg) r_87 r_129))) ∧ (¬ k_173 = 15 → (((k_173 = 16 → (vp_in x2_43 60 ∧ (wpX_note (fun u540 => (post u540)) (xs_position u a_position_171) r_1 ((xa_argA u) x2_43.toNatClampNeg) r_87 r_129))) ∧ (¬ k_173 = 16 → (((k_173 = 17 → (vp_in r_1 48 ∧ ∀ a_mode_582, a_mode_582 = upd (xa_mode u) r_1.toNatClampNeg 1 → (post (xs_mode (xs_position u a_position_171) a_mode_582)))) ∧ (¬ k_173 = 17 → (((k_173 = 18 → (wpX_panic (fun u585 => (post u585)) (xs_position u a_position_171) r_1 r_45)) ∧ (¬ k_173 = 18 → (((k_173 = 19 → (wpX_recover (fun u627 => (post u627)) (xs_position u a_position_171) r_1 x2_43)) ∧ (¬ k_173 = 19 → (((k_173 = 20 → (wpX_print (fun u669 => (post u669)) (xs_position u a_position_171) r_45)) ∧ (¬ k_173 = 20 → (((k_173 = 21 → (cx_execute_406 post r_1 x2_43 r_87 r_129 (xs_position u a_position_171))) ∧ (¬ k_173 = 21 → (((k_173 = 22 → (cx_execute_406 post r_1 x2_43 r_87 r_129 (xs_position u a_position_171))) ∧ (¬ k_173 = 22 → (((k_173 = 23 → (cx_execute_406 post r_1 x2_43 r_87 r_129 (xs_position u a_position_171))) ∧ (¬ k_173 = 23 → (((k_173 = 24 → (cx_execute_406 post r_1 x2_43 r_87 r_129 (xs_position u a_position_171))) ∧ (¬ k_173 = 24 → (((k_173 = 25 → (cx_execute_406 post r_1 x2_43 r_87 r_129 (xs_position u a_position_171))) ∧ (¬ k_173 = 25 → (((k_173 = 26 → (cx_execute_406 post r_1 x2_43 r_87 r_129 (xs_position u a_position_171))) ∧ (¬ k_173 = 26 → (((k_173 = 27 → (cx_execute_406 post r_1 x2_43 r_87 r_129 (xs_position u a_position_171))) ∧ (¬ k_173 = 27 → (((k_173 = 28 → (wpX_sleep (fun u718 => (post u718)) (xs_position u a_position_171) r_1 x2_43 r_45)) ∧ (¬ k_173 = 28 → (True)))))))))))))))))))))))))))))))))))))))))))))))))))))))))))))))))))))))))))))))))))))))))))))))))) u r_1 ((xa_argC u) x2_43.toNatClampNeg)))) u r_1 ((xa_argB u) x2_43.toNatClampNeg)))) u r_1 ((xa_argA u) x2_43.toNatClampNeg)))))) u (xa_running u)) := sorry
theorem ux_longestWaitingUntil_5 (post : Int32 → Prop) (x1 : Int64) (u : SX) (n : Nat) (x3 : Int32) (x4 : Int32) : cx_longestWaitingUntil_5 post x1 u (n + 1) x3 x4 = ((((xa_goroutineCount u) ≤ x4 → (post x3)) ∧ (¬ (xa_goroutineCount u) ≤ x4 → (vp_in x4 12 ∧ (((((xa_waitUntil u) x4.toNatClampNeg) = x1 → (((x3 = (-1) → (∀ x4_6, x4_6 = x4 + 1 → (cx_longestWaitingUntil_5 post x1 u n x4 x4_6))) ∧ (¬ x3 = (-1) → (vp_in x4 12 ∧ (vp_in x3 12 ∧ (((((xa_waitOrder u) x3.toNatClampNeg) ≤ ((xa_waitOrder u) x4.toNatClampNeg) → (∀ x4_10, x4_10 = x4 + 1 → (cx_longestWaitingUntil_5 post x1 u n x3 x4_10))) ∧ (¬ ((xa_waitOrder u) x3.toNatClampNeg) ≤ ((xa_waitOrder u) x4.toNatClampNeg) → (∀ x4_11, x4_11 = x4 + 1 → (cx_longestWaitingUntil_5 post x1 u n x4 x4_11))))))))))) ∧ (¬ ((xa_waitUntil u) x4.toNatClampNeg) = x1 → (∀ x4_4, x4_4 = x4 + 1 → (cx_longestWaitingUntil_5 post x1 u n x3 x4_4))))))))) := sorry
theorem ux_longestWaitingUntil (post : Int32 → Prop) (u : SX) (p0 : Int64) : wpX_longestWaitingUntil post u p0 = (∃ n5 : Nat, cx_longestWaitingUntil_5 post p0 u n5 (-1) 0) := sorry
theorem ux_passTime_127 (post : SX → Prop) (J75 : Int32 → SX → Prop) (x1 : Int64) (x3 : Int32) (x4 : Int32) (x5 : Int32) (u : SX) : cx_passTime_127 post J75 x1 x3 x4 x5 u = (wpX_stopWaiting (fun u93 => (∀ x3_133, x3_133 = x3 + 1 → (J75 x3_133 u93))) u x4 x5 0) := sorry
theorem ux_passTime_75 (post : SX → Prop) (x1 : Int64) (n : Nat) (x3 : Int32) (u : SX) : cx_passTime_75 post x1 (n + 1) x3 u = (((12 ≤ x3 → (post u)) ∧ (¬ 12 ≤ x3 → (wpX_longestWaitingUntil (fun r_4 => (((r_4 = (-1) → (∀ x3_46, x3_46 = x3 + 1 → (cx_passTime_75 post x1 n x3_46 u))) ∧ (¬ r_4 = (-1) → (wpX_topOf (fun r_47 => (vp_in r_47 48 ∧ (∀ x5_89, x5_89 = (xa_position u) r_47.toNatClampNeg → (vp_in x5_89 60 ∧ (((((xa_kinds u) x5_89.toNatClampNeg) = 6 → (wpX_alternativeOf (fun r_134 => (cx_passTime_127 post (cx_passTime_75 post x1 n) x1 x3 r_4 r_134 u)) u x5_89)) ∧ (¬ ((xa_kinds u) x5_89.toNatClampNeg) = 6 → (cx_passTime_127 post (cx_passTime_75 post x1 n) x1 x3 r_4 x5_89 u)))))))) u r_4))))) u x1)))) := sorry
theorem ux_passTime_6 (post : SX → Prop) (u : SX) (n : Nat) (x1 : Int64) (x3 : Int32) : cx_passTime_6 post u (n + 1) x1 x3 = ((((xa_goroutineCount u) ≤ x3 → (((x1 = (-1) → (post u)) ∧ (¬ x1 = (-1) → (∃ n75 : Nat, cx_passTime_75 post x1 n75 0 (xs_time u x1)))))) ∧ (¬ (xa_goroutineCount u) ≤ x3 → (vp_in x3 12 ∧ (((((xa_waitUntil u) x3.toNatClampNeg) = (-1) → (∀ x3_177, x3_177 = x3 + 1 → (cx_passTime_6 post u n x1 x3_177))) ∧ (¬ ((xa_waitUntil u) x3.toNatClampNeg) = (-1) → (((x1 = (-1) → (vp_in x3 12 ∧ (∀ x1_180, x1_180 = (xa_waitUntil u) x3.toNatClampNeg → (∀ x3_181, x3_181 = x3 + 1 → (cx_passTime_6 post u n x1_180 x3_181))))) ∧ (¬ x1 = (-1) → (vp_in x3 12 ∧ (((x1 ≤ ((xa_waitUntil u) x3.toNatClampNeg) → (∀ x3_184, x3_184 = x3 + 1 → (cx_passTime_6 post u n x1 x3_184))) ∧ (¬ x1 ≤ ((xa_waitUntil u) x3.toNatClampNeg) → (vp_in x3 12 ∧ (∀ x1_186, x1_186 = (xa_waitUntil u) x3.toNatClampNeg → (∀ x3_187, x3_187 = x3 + 1 → (cx_passTime_6 post u n x1_186 x3_187)))))))))))))))))) := sorry
theorem ux_passTime (post : SX → Prop) (u : SX) : wpX_passTime post u = (∃ n6 : Nat, cx_passTime_6 post u n6 (-1) 0) := sorry
theorem ux_dequeue_19 (post : Int32 → SX → Prop) (x1 : Int32) (n : Nat) (x2 : Int32) (u : SX) : cx_dequeue_19 post x1 (n + 1) x2 u = ((((xa_queueLength u) ≤ x2 → (post x1 u)) ∧ (¬ (xa_queueLength u) ≤ x2 → (vp_in (x2 + 1) 12 ∧ (vp_in x2 12 ∧ ∀ a_queue_6, a_queue_6 = upd (xa_queue u) x2.toNatClampNeg ((xa_queue u) (x2 + 1).toNatClampNeg) → (∀ x2_7, x2_7 = x2 + 1 → (cx_dequeue_19 post x1 n x2_7 (xs_queue u a_queue_6)))))))) := sorry
theorem ux_dequeue (post : Int32 → SX → Prop) (u : SX) : wpX_dequeue post u = (∀ x1_1, x1_1 = (xa_queue u) 0 → (∀ f_queueLength_2, f_queueLength_2 = (xa_queueLength u) - 1 → (∃ n19 : Nat, cx_dequeue_19 post x1_1 n19 0 (xs_queueLength u f_queueLength_2)))) := sorry
theorem ux_runNext_11 (post : SX → Prop) (u : SX) : cx_runNext_11 post u = ((((xa_queueLength u) = 0 → (post (xs_state u 4))) ∧ (¬ (xa_queueLength u) = 0 → (wpX_dequeue (fun r_3 u4 => (vp_in r_3 12 ∧ (((((xa_status u4) r_3.toNatClampNeg) = 1 → (vp_in r_3 12 ∧ ∀ a_status_47, a_status_47 = upd (xa_status u4) r_3.toNatClampNeg 0 → (wpX_topOf (fun r_48 => (wpX_panic (fun u90 => (post u90)) (xs_status (xs_running u4 r_3) a_status_47) r_48 (-1))) (xs_status (xs_running u4 r_3) a_status_47) r_3))) ∧ (¬ ((xa_status u4) r_3.toNatClampNeg) = 1 → (post (xs_running u4 r_3))))))) u)))) := sorry
theorem ux_runNext (post : SX → Prop) (u : SX) : wpX_runNext post u = ((((xa_queueLength u) = 0 → (wpX_passTime (fun u131 => (cx_runNext_11 post u131)) u)) ∧ (¬ (xa_queueLength u) = 0 → (cx_runNext_11 post u)))) := sorry
theorem ux_callLatestNote (post : SX → Prop) (u : SX) (p0 : Int32) : wpX_callLatestNote post u p0 = (vp_in (xa_running u) 12 ∧ (((((xa_depth u) (xa_running u).toNatClampNeg) < 4 → (vp_in p0 48 ∧ (vp_in p0 48 ∧ ∀ a_noteCount_5, a_noteCount_5 = upd (xa_noteCount u) p0.toNatClampNeg (((xa_noteCount u) p0.toNatClampNeg) - 1) → (vp_in p0 48 ∧ (∀ x2_7, x2_7 = (p0 * 3) + (a_noteCount_5 p0.toNatClampNeg) → (∀ x3_8, x3_8 = x2_7 * 2 → (vp_in x2_7 144 ∧ (vp_in x3_8 288 ∧ (vp_in (x3_8 + 1) 288 ∧ (wpX_enter (fun u13 => (post u13)) (xs_noteCount u a_noteCount_5) (xa_running u) ((xa_noteFunction u) x2_7.toNatClampNeg) ((xa_noteValues u) x3_8.toNatClampNeg) ((xa_noteValues u) (x3_8 + 1).toNatClampNeg))))))))))) ∧ (¬ ((xa_depth u) (xa_running u).toNatClampNeg) < 4 → (post (xs_state u 5)))))) := sorry
theorem ux_endGoroutine (post : SX → Prop) (u : SX) (p0 : Int32) (p1 : Int32) : wpX_endGoroutine post u p0 p1 = (vp_in p0 12 ∧ ∀ a_status_2, a_status_2 = upd (xa_status u) p0.toNatClampNeg 3 → (vp_in p1 48 ∧ (((((xa_mode u) p1.toNatClampNeg) = 2 → (vp_in p1 48 ∧ (∀ f_endingPanic_7, f_endingPanic_7 = (xa_panicOf u) p1.toNatClampNeg → (post (xs_status (xs_running (xs_endingPanic (xs_state u 3) f_endingPanic_7) (-1)) a_status_2))))) ∧ (¬ ((xa_mode u) p1.toNatClampNeg) = 2 → (((p0 = 0 → (post (xs_status (xs_running (xs_state u 2) (-1)) a_status_2))) ∧ (¬ p0 = 0 → (post (xs_status (xs_running u (-1)) a_status_2)))))))))) := sorry
theorem ux_leave (post : SX → Prop) (u : SX) (p0 : Int32) : wpX_leave post u p0 = (vp_in p0 48 ∧ (((((xa_noteCount u) p0.toNatClampNeg) ≤ 0 → (vp_in (xa_running u) 12 ∧ (vp_in (xa_running u) 12 ∧ ∀ a_depth_5, a_depth_5 = upd (xa_depth u) (xa_running u).toNatClampNeg (((xa_depth u) (xa_running u).toNatClampNeg) - 1) → (vp_in (xa_running u) 12 ∧ ((((a_depth_5 (xa_running u).toNatClampNeg) = 0 → (wpX_endGoroutine (fun u53 => (post u53)) (xs_depth u a_depth_5) (xa_running u) p0)) ∧ (¬ (a_depth_5 (xa_running u).toNatClampNeg) = 0 → (vp_in p0 48 ∧ (((((xa_mode u) p0.toNatClampNeg) = 2 → (vp_in p0 48 ∧ (wpX_panic (fun u12 => (post u12)) (xs_depth u a_depth_5) (p0 - 1) ((xa_panicOf u) p0.toNatClampNeg)))) ∧ (¬ ((xa_mode u) p0.toNatClampNeg) = 2 → (post (xs_depth u a_depth_5))))))))))))) ∧ (¬ ((xa_noteCount u) p0.toNatClampNeg) ≤ 0 → (wpX_callLatestNote (fun u94 => (post u94)) u p0))))) := sorry
theorem ux_movedOn_30 (post : Int32 → SX → Prop) (x1 : Int32) (x2 : Int32) (u : SX) : cx_movedOn_30 post x1 x2 u = (vp_in x2 60 ∧ (vp_in ((xa_blockOf u) x2.toNatClampNeg) 60 ∧ (vp_in x1 48 ∧ ∀ a_position_8, a_position_8 = upd (xa_position u) x1.toNatClampNeg ((xa_endOf u) ((xa_blockOf u) x2.toNatClampNeg).toNatClampNeg) → (post 1 (xs_position u a_position_8))))) := sorry
theorem ux_movedOn (post : Int32 → SX → Prop) (u : SX) (p0 : Int32) : wpX_movedOn post u p0 = (vp_in p0 48 ∧ (∀ x2_2, x2_2 = (xa_position u) p0.toNatClampNeg → (vp_in x2_2 60 ∧ (((((xa_kinds u) x2_2.toNatClampNeg) = 3 → (cx_movedOn_30 post p0 x2_2 u)) ∧ (¬ ((xa_kinds u) x2_2.toNatClampNeg) = 3 → (vp_in x2_2 60 ∧ (wpX_isSection (fun r_10 => (((r_10 = 0 → (vp_in x2_2 60 ∧ (((((xa_kinds u) x2_2.toNatClampNeg) = 1 → (vp_in x2_2 60 ∧ (∀ x3_55, x3_55 = (xa_blockOf u) x2_2.toNatClampNeg → (vp_in x3_55 60 ∧ (((((xa_kinds u) x3_55.toNatClampNeg) = 0 → (vp_in p0 48 ∧ ∀ a_mode_65, a_mode_65 = upd (xa_mode u) p0.toNatClampNeg 1 → (post 1 (xs_mode u a_mode_65)))) ∧ (¬ ((xa_kinds u) x3_55.toNatClampNeg) = 0 → (vp_in x3_55 60 ∧ (((((xa_kinds u) x3_55.toNatClampNeg) = 4 → (vp_in p0 48 ∧ ∀ a_position_63, a_position_63 = upd (xa_position u) p0.toNatClampNeg x3_55 → (post 1 (xs_position u a_position_63)))) ∧ (¬ ((xa_kinds u) x3_55.toNatClampNeg) = 4 → (vp_in p0 48 ∧ ∀ a_position_61, a_position_61 = upd (xa_position u) p0.toNatClampNeg (x2_2 + 1) → (post 1 (xs_position u a_position_61)))))))))))))) ∧ (¬ ((xa_kinds u) x2_2.toNatClampNeg) = 1 → (post 0 u)))))) ∧ (¬ r_10 = 0 → (cx_movedOn_30 post p0 x2_2 u))))) u ((xa_kinds u) x2_2.toNatClampNeg))))))))) := sorry
theorem ux_settle_2 (post : SX → Prop) (n : Nat) (x1 : Int32) (u : SX) : cx_settle_2 post (n + 1) x1 u = (((1000000 ≤ x1 → (post u)) ∧ (¬ 1000000 ≤ x1 → ((((xa_state u) = 1 → ((((xa_running u) = (-1) → (wpX_runNext (fun u133 => (∀ x1_173, x1_173 = x1 + 1 → (cx_settle_2 post n x1_173 u133))) u)) ∧ (¬ (xa_running u) = (-1) → (wpX_topOf (fun r_4 => (vp_in r_4 48 ∧ (((((xa_mode u) r_4.toNatClampNeg) = 0 → (wpX_movedOn (fun r_47 u48 => (((r_47 = 0 → (post u48)) ∧ (¬ r_47 = 0 → (∀ x1_89, x1_89 = x1 + 1 → (cx_settle_2 post n x1_89 u48)))))) u r_4)) ∧ (¬ ((xa_mode u) r_4.toNatClampNeg) = 0 → (wpX_leave (fun u91 => (∀ x1_131, x1_131 = x1 + 1 → (cx_settle_2 post n x1_131 u91))) u r_4)))))) u (xa_running u)))))) ∧ (¬ (xa_state u) = 1 → (post u))))))) := sorry
theorem ux_settle (post : SX → Prop) (u : SX) : wpX_settle post u = (∃ n2 : Nat, cx_settle_2 post n2 0 u) := sorry
theorem ux_run_19 (post : Int32 → SX → Prop) (x1 : Int32) (n : Nat) (x2 : Int32) (u : SX) : cx_run_19 post x1 (n + 1) x2 u = (((x1 ≤ x2 → (post (xa_state u) u)) ∧ (¬ x1 ≤ x2 → ((((xa_state u) = 1 → (wpX_execute (fun u6 => (wpX_settle (fun u47 => (∀ x2_87, x2_87 = x2 + 1 → (cx_run_19 post x1 n x2_87 u47))) u6)) u)) ∧ (¬ (xa_state u) = 1 → (post (xa_state u) u))))))) := sorry
theorem ux_run (post : Int32 → SX → Prop) (u : SX) (p0 : Int32) : wpX_run post u p0 = (((p0 < 1 → (post (xa_state u) u)) ∧ (¬ p0 < 1 → (((p0 ≤ 200 → (∃ n19 : Nat, cx_run_19 post p0 n19 0 u)) ∧ (¬ p0 ≤ 200 → (post (xa_state u) u))))))) := sorry
theorem ux_printed (post : Int32 → Prop) (u : SX) : wpX_printed post u = (post (xa_outputCount u)) := sorry
theorem ux_output (post : Int32 → Prop) (u : SX) (p0 : Int32) : wpX_output post u p0 = (((p0 < 0 → (post 0)) ∧ (¬ p0 < 0 → (((32 ≤ p0 → (post 0)) ∧ (¬ 32 ≤ p0 → (((p0 < (xa_outputCount u) → (vp_in ((((xa_outputCount u) - 1) - p0) &&& 31) 32 ∧ (post ((xa_outputs u) ((((xa_outputCount u) - 1) - p0) &&& 31).toNatClampNeg)))) ∧ (¬ p0 < (xa_outputCount u) → (post 0)))))))))) := sorry
theorem ux_panicValue (post : Int32 → Prop) (u : SX) : wpX_panicValue post u = (post (xa_endingPanic u)) := sorry
theorem ux_clock (post : Int64 → Prop) (u : SX) : wpX_clock post u = (post (xa_time u)) := sorry
theorem ux_waitsAt (post : Int32 → Prop) (u : SX) (p0 : Int32) : wpX_waitsAt post u p0 = (((p0 < 0 → (post (-1))) ∧ (¬ p0 < 0 → (((p0 < (xa_goroutineCount u) → (vp_in p0 12 ∧ (((((xa_status u) p0.toNatClampNeg) = 3 → (post (-2))) ∧ (¬ ((xa_status u) p0.toNatClampNeg) = 3 → (vp_in p0 12 ∧ (((((xa_status u) p0.toNatClampNeg) = 2 → (wpX_topOf (fun r_7 => (vp_in r_7 48 ∧ (post ((xa_position u) r_7.toNatClampNeg)))) u p0)) ∧ (¬ ((xa_status u) p0.toNatClampNeg) = 2 → (post (-3))))))))))) ∧ (¬ p0 < (xa_goroutineCount u) → (post (-1)))))))) := sorry
theorem ux_hasActivation (post : Int32 → Prop) (u : SX) (p0 : Int32) : wpX_hasActivation post u p0 = (((p0 < 0 → (post 0)) ∧ (¬ p0 < 0 → ((((xa_goroutineCount u) ≤ p0 → (post 0)) ∧ (¬ (xa_goroutineCount u) ≤ p0 → (vp_in p0 12 ∧ (((((xa_depth u) p0.toNatClampNeg) ≤ 0 → (post 0)) ∧ (¬ ((xa_depth u) p0.toNatClampNeg) ≤ 0 → (post 1))))))))))) := sorry
theorem ux_variable (post : Int32 → Prop) (u : SX) (p0 : Int32) (p1 : Int32) : wpX_variable post u p0 p1 = (wpX_hasActivation (fun r_1 => (((r_1 = 0 → (post 0)) ∧ (¬ r_1 = 0 → (((p1 < 0 → (post 0)) ∧ (¬ p1 < 0 → (((p1 < 6 → (wpX_topOf (fun r_45 => (vp_in ((r_45 * 6) + p1) 288 ∧ (post ((xa_variables u) ((r_45 * 6) + p1).toNatClampNeg)))) u p0)) ∧ (¬ p1 < 6 → (post 0))))))))))) u p0) := sorry
theorem ux_channel (post : Int32 → Prop) (u : SX) (p0 : Int32) : wpX_channel post u p0 = (wpX_isChannel (fun r_1 => (((r_1 = 0 → (post (-1))) ∧ (¬ r_1 = 0 → (vp_in (p0 - 1) 8 ∧ (((((xa_closed u) (p0 - 1).toNatClampNeg) = 0 → (vp_in (p0 - 1) 8 ∧ (post ((xa_fill u) (p0 - 1).toNatClampNeg)))) ∧ (¬ ((xa_closed u) (p0 - 1).toNatClampNeg) = 0 → (vp_in (p0 - 1) 8 ∧ (post (((xa_fill u) (p0 - 1).toNatClampNeg) + 8))))))))))) u p0) := sorry
theorem ux_notes (post : Int32 → Prop) (u : SX) (p0 : Int32) : wpX_notes post u p0 = (wpX_hasActivation (fun r_1 => (((r_1 = 0 → (post (-1))) ∧ (¬ r_1 = 0 → (wpX_topOf (fun r_43 => (vp_in r_43 48 ∧ (post ((xa_noteCount u) r_43.toNatClampNeg)))) u p0))))) u p0) := sorry
theorem ux_panicking_14 (post : Int32 → Prop) (x1 : Int32) (u : SX) (n : Nat) (x2 : Int32) (x3 : Int32) : cx_panicking_14 post x1 u (n + 1) x2 x3 = (vp_in x1 12 ∧ (((((xa_depth u) x1.toNatClampNeg) ≤ x3 → (post x2)) ∧ (¬ ((xa_depth u) x1.toNatClampNeg) ≤ x3 → (vp_in ((x1 * 4) + x3) 48 ∧ (((((xa_mode u) ((x1 * 4) + x3).toNatClampNeg) = 2 → (∀ x2_48, x2_48 = x2 + 1 → (∀ x3_49, x3_49 = x3 + 1 → (cx_panicking_14 post x1 u n x2_48 x3_49)))) ∧ (¬ ((xa_mode u) ((x1 * 4) + x3).toNatClampNeg) = 2 → (∀ x3_47, x3_47 = x3 + 1 → (cx_panicking_14 post x1 u n x2 x3_47)))))))))) := sorry
theorem ux_panicking (post : Int32 → Prop) (u : SX) (p0 : Int32) : wpX_panicking post u p0 = (wpX_hasActivation (fun r_1 => (((r_1 = 0 → (post 0)) ∧ (¬ r_1 = 0 → (∃ n14 : Nat, cx_panicking_14 post p0 u n14 0 0))))) u p0) := sorry
theorem uy_idle_7 (post : SY → Prop) (n : Nat) (x1 : Int32) (u : SY) : cy_idle_7 post (n + 1) x1 u = (((12 ≤ x1 → (post (ys_panicValue (ys_printed (ys_made (ys_off (ys_turn (ys_clock (ys_now (ys_started (ys_queued u 0) 0) 0) 0) 0) 0) 0) 0) 0))) ∧ (¬ 12 ≤ x1 → (vp_in x1 12 ∧ ∀ a_status_3, a_status_3 = upd (ya_status u) x1.toNatClampNeg (vp_nar .byte 0) → (vp_in x1 12 ∧ ∀ a_depth_5, a_depth_5 = upd (ya_depth u) x1.toNatClampNeg (vp_nar .byte 0) → (vp_in x1 12 ∧ ∀ a_shocked_7, a_shocked_7 = upd (ya_shocked u) x1.toNatClampNeg (vp_nar .boolean 0) → (vp_in x1 12 ∧ ∀ a_resume_9, a_resume_9 = upd (ya_resume u) x1.toNatClampNeg (vp_nar .byte (-1)) → (∀ x1_10, x1_10 = x1 + 1 → (cy_idle_7 post n x1_10 (ys_shocked (ys_resume (ys_depth (ys_status u a_status_3) a_depth_5) a_resume_9) a_shocked_7)))))))))) := sorry
theorem uy_idle (post : SY → Prop) (u : SY) : wpY_idle post u = (∃ n7 : Nat, cy_idle_7 post n7 0 (ys_state u 0)) := sorry
theorem uy_line_114 (post : Int32 → SY → Prop) (x1 : Int32) (x2 : Int32) (x3 : Int32) (x4 : Int32) (u : SY) : cy_line_114 post x1 x2 x3 x4 u = (vp_in (ya_lines u) 60 ∧ ∀ a_kind_13, a_kind_13 = upd (ya_kind u) (ya_lines u).toNatClampNeg (vp_nar .byte x1.toInt8.toInt32) → (vp_in (ya_lines u) 60 ∧ ∀ a_opA_15, a_opA_15 = upd (ya_opA u) (ya_lines u).toNatClampNeg x2 → (vp_in (ya_lines u) 60 ∧ ∀ a_opB_17, a_opB_17 = upd (ya_opB u) (ya_lines u).toNatClampNeg x3 → (∀ f_lines_18, f_lines_18 = (ya_lines u) + 1 → (vp_in (ya_lines u) 60 ∧ ∀ a_opC_20, a_opC_20 = upd (ya_opC u) (ya_lines u).toNatClampNeg x4 → (wpY_idle (fun u22 => (post 1 u22)) (ys_opC (ys_opB (ys_opA (ys_kind (ys_lines u f_lines_18) a_kind_13) a_opA_15) a_opB_17) a_opC_20))))))) := sorry
theorem uy_line_101 (post : Int32 → SY → Prop) (x1 : Int32) (x2 : Int32) (x3 : Int32) (x4 : Int32) (u : SY) : cy_line_101 post x1 x2 x3 x4 u = (((x4 < 0 → (post 0 u)) ∧ (¬ x4 < 0 → (((x4 ≤ 5 → (cy_line_114 post x1 x2 x3 x4 u)) ∧ (¬ x4 ≤ 5 → (post 0 u))))))) := sorry
theorem uy_line_89 (post : Int32 → SY → Prop) (x1 : Int32) (x2 : Int32) (x3 : Int32) (x4 : Int32) (u : SY) : cy_line_89 post x1 x2 x3 x4 u = (((x1 = 8 → (cy_line_101 post x1 x2 x3 x4 u)) ∧ (¬ x1 = 8 → (((x1 = 11 → (cy_line_101 post x1 x2 x3 x4 u)) ∧ (¬ x1 = 11 → (cy_line_114 post x1 x2 x3 x4 u))))))) := sorry
theorem uy_line_73 (post : Int32 → SY → Prop) (x1 : Int32) (x2 : Int32) (x3 : Int32) (x4 : Int32) (u : SY) : cy_line_73 post x1 x2 x3 x4 u = (wpY_sets (fun r_7 => (((r_7 = 0 → (cy_line_89 post x1 x2 x3 x4 u)) ∧ (¬ r_7 = 0 → (((x2 < 0 → (post 0 u)) ∧ (¬ x2 < 0 → (((5 < x2 → (post 0 u)) ∧ (¬ 5 < x2 → (cy_line_89 post x1 x2 x3 x4 u))))))))))) x1) := sorry
theorem uy_line_49 (post : Int32 → SY → Prop) (x1 : Int32) (x2 : Int32) (x3 : Int32) (x4 : Int32) (u : SY) : cy_line_49 post x1 x2 x3 x4 u = (((x1 < 14 → (cy_line_73 post x1 x2 x3 x4 u)) ∧ (¬ x1 < 14 → (((16 < x1 → (cy_line_73 post x1 x2 x3 x4 u)) ∧ (¬ 16 < x1 → (((x2 < 0 → (post 0 u)) ∧ (¬ x2 < 0 → (((x2 ≤ 29 → (cy_line_73 post x1 x2 x3 x4 u)) ∧ (¬ x2 ≤ 29 → (post 0 u))))))))))))) := sorry
theorem uy_line_34 (post : Int32 → SY → Prop) (x1 : Int32) (x2 : Int32) (x3 : Int32) (x4 : Int32) (u : SY) : cy_line_34 post x1 x2 x3 x4 u = (((x1 = 13 → (((x3 < 0 → (post 0 u)) ∧ (¬ x3 < 0 → (((3 < x3 → (post 0 u)) ∧ (¬ 3 < x3 → (cy_line_49 post x1 x2 x3 x4 u)))))))) ∧ (¬ x1 = 13 → (cy_line_49 post x1 x2 x3 x4 u)))) := sorry
theorem uy_line (post : Int32 → SY → Prop) (u : SY) (p0 : Int32) (p1 : Int32) (p2 : Int32) (p3 : Int32) : wpY_line post u p0 p1 p2 p3 = ((((ya_lines u) = 60 → (post 0 u)) ∧ (¬ (ya_lines u) = 60 → (((p0 < 0 → (post 0 u)) ∧ (¬ p0 < 0 → (((p0 ≤ 29 → (((p0 = 0 → (((p1 < 0 → (post 0 u)) ∧ (¬ p1 < 0 → (((2 < p1 → (post 0 u)) ∧ (¬ 2 < p1 → (cy_line_34 post p0 p1 p2 p3 u)))))))) ∧ (¬ p0 = 0 → (cy_line_34 post p0 p1 p2 p3 u))))) ∧ (¬ p0 ≤ 29 → (post 0 u)))))))))) := sorry
theorem uy_clear (post : Int32 → SY → Prop) (u : SY) : wpY_clear post u = (wpY_idle (fun u2 => (post (ya_lines u) u2)) (ys_lines u 0)) := sorry
theorem uy_form_312 (post : Int32 → SY → Prop) (J4 : Int32 → Int32 → SY → Prop) (x1 : Int32) (x2 : Int32) (u : SY) : cy_form_312 post J4 x1 x2 u = (vp_in x1 60 ∧ ∀ a_open_19, a_open_19 = upd (ya_open u) x1.toNatClampNeg (vp_nar .byte x2.toInt8.toInt32) → (∀ x1_20, x1_20 = x1 + 1 → (vp_in x1 60 ∧ ∀ a_seen_22, a_seen_22 = upd (ya_seen u) x1.toNatClampNeg (vp_nar .byte 0) → (∀ x2_23, x2_23 = x2 + 1 → (J4 x1_20 x2_23 (ys_seen (ys_open u a_open_19) a_seen_22)))))) := sorry
theorem uy_form_240 (post : Int32 → SY → Prop) (J4 : Int32 → Int32 → SY → Prop) (x1 : Int32) (x2 : Int32) (u : SY) (n : Nat) (x6 : Int32) (x7 : Int32) : cy_form_240 post J4 x1 x2 u (n + 1) x6 x7 = (((x1 ≤ x7 → (((x6 = 0 → (post x2 u)) ∧ (¬ x6 = 0 → (∀ x2_32, x2_32 = x2 + 1 → (J4 x1 x2_32 u)))))) ∧ (¬ x1 ≤ x7 → (vp_in x7 60 ∧ (vp_in ((ya_open u) x7.toNatClampNeg) 60 ∧ (((((ya_kind u) ((ya_open u) x7.toNatClampNeg).toNatClampNeg) = 4 → (∀ x7_37, x7_37 = x7 + 1 → (cy_form_240 post J4 x1 x2 u n 1 x7_37))) ∧ (¬ ((ya_kind u) ((ya_open u) x7.toNatClampNeg).toNatClampNeg) = 4 → (∀ x7_36, x7_36 = x7 + 1 → (cy_form_240 post J4 x1 x2 u n x6 x7_36)))))))))) := sorry
theorem uy_form_180 (post : Int32 → SY → Prop) (J4 : Int32 → Int32 → SY → Prop) (x1 : Int32) (x2 : Int32) (x3 : Int32) (x5 : Int32) (u : SY) : cy_form_180 post J4 x1 x2 x3 x5 u = (((x3 < 9 → (((x5 = 0 → (vp_in (x1 - 1) 60 ∧ ∀ a_seen_47, a_seen_47 = upd (ya_seen u) (x1 - 1).toNatClampNeg (vp_nar .byte ((2 : Int32).toInt8.toInt32)) → (∀ x2_48, x2_48 = x2 + 1 → (J4 x1 x2_48 (ys_seen u a_seen_47))))) ∧ (¬ x5 = 0 → (vp_in (x1 - 1) 60 ∧ ∀ a_seen_44, a_seen_44 = upd (ya_seen u) (x1 - 1).toNatClampNeg (vp_nar .byte ((x5 + 1).toInt8.toInt32)) → (∀ x2_45, x2_45 = x2 + 1 → (J4 x1 x2_45 (ys_seen u a_seen_44)))))))) ∧ (¬ x3 < 9 → (((x5 = 0 → (vp_in (x1 - 1) 60 ∧ ∀ a_seen_54, a_seen_54 = upd (ya_seen u) (x1 - 1).toNatClampNeg (vp_nar .byte ((9 : Int32).toInt8.toInt32)) → (∀ x2_55, x2_55 = x2 + 1 → (J4 x1 x2_55 (ys_seen u a_seen_54))))) ∧ (¬ x5 = 0 → (vp_in (x1 - 1) 60 ∧ ∀ a_seen_51, a_seen_51 = upd (ya_seen u) (x1 - 1).toNatClampNeg (vp_nar .byte ((x5 + 8).toInt8.toInt32)) → (∀ x2_52, x2_52 = x2 + 1 → (J4 x1 x2_52 (ys_seen u a_seen_51)))))))))) := sorry
theorem uy_form_109 (post : Int32 → SY → Prop) (J4 : Int32 → Int32 → SY → Prop) (x1 : Int32) (x2 : Int32) (x3 : Int32) (x4 : Int32) (x5 : Int32) (u : SY) : cy_form_109 post J4 x1 x2 x3 x4 x5 u = (((x3 = 3 → (((x4 = 2 → (((x5 = 0 → (vp_in (x1 - 1) 60 ∧ ∀ a_seen_60, a_seen_60 = upd (ya_seen u) (x1 - 1).toNatClampNeg (vp_nar .byte 1) → (∀ x2_61, x2_61 = x2 + 1 → (J4 x1 x2_61 (ys_seen u a_seen_60))))) ∧ (¬ x5 = 0 → (post x2 u))))) ∧ (¬ x4 = 2 → (post x2 u))))) ∧ (¬ x3 = 3 → (wpY_section (fun r_13 => (((r_13 = 0 → (((x3 = 5 → (∃ n240 : Nat, cy_form_240 post J4 x1 x2 u n240 0 0)) ∧ (¬ x3 = 5 → (((x3 = 1 → (∀ x1_28, x1_28 = x1 + (-1) → (∀ x2_29, x2_29 = x2 + 1 → (J4 x1_28 x2_29 u)))) ∧ (¬ x3 = 1 → (((x3 = 0 → (cy_form_312 post J4 x1 x2 u)) ∧ (¬ x3 = 0 → (((x3 = 2 → (cy_form_312 post J4 x1 x2 u)) ∧ (¬ x3 = 2 → (((x3 = 4 → (cy_form_312 post J4 x1 x2 u)) ∧ (¬ x3 = 4 → (((x3 = 6 → (cy_form_312 post J4 x1 x2 u)) ∧ (¬ x3 = 6 → (∀ x2_27, x2_27 = x2 + 1 → (J4 x1 x2_27 u))))))))))))))))))))) ∧ (¬ r_13 = 0 → (((x4 = 6 → (((x3 < 9 → ((((x5 &&& 7) ≤ 3 → (cy_form_180 post J4 x1 x2 x3 x5 u)) ∧ (¬ (x5 &&& 7) ≤ 3 → (post x2 u))))) ∧ (¬ x3 < 9 → (((x5 < 8 → (cy_form_180 post J4 x1 x2 x3 x5 u)) ∧ (¬ x5 < 8 → (post x2 u)))))))) ∧ (¬ x4 = 6 → (post x2 u)))))))) x3)))) := sorry
theorem uy_form_78 (post : Int32 → SY → Prop) (J4 : Int32 → Int32 → SY → Prop) (x1 : Int32) (x2 : Int32) (x3 : Int32) (x4 : Int32) (x5 : Int32) (z0 : Int32) (z1 : Int32) (u : SY) : cy_form_78 post J4 x1 x2 x3 x4 x5 z0 z1 u = (((z1 = z0 → (((x4 = 6 → (((x5 = 0 → (((x3 = 1 → (cy_form_109 post J4 x1 x2 x3 x4 x5 u)) ∧ (¬ x3 = 1 → (wpY_section (fun r_64 => (((r_64 = 0 → (post x2 u)) ∧ (¬ r_64 = 0 → (cy_form_109 post J4 x1 x2 x3 x4 x5 u))))) x3))))) ∧ (¬ x5 = 0 → (cy_form_109 post J4 x1 x2 x3 x4 x5 u))))) ∧ (¬ x4 = 6 → (cy_form_109 post J4 x1 x2 x3 x4 x5 u))))) ∧ (¬ z1 = z0 → (post x2 u)))) := sorry
theorem uy_form_69 (post : Int32 → SY → Prop) (J4 : Int32 → Int32 → SY → Prop) (x1 : Int32) (x2 : Int32) (x3 : Int32) (x4 : Int32) (x5 : Int32) (z0 : Int32) (u : SY) : cy_form_69 post J4 x1 x2 x3 x4 x5 z0 u = (((x1 = 0 → (cy_form_78 post J4 x1 x2 x3 x4 x5 1 z0 u)) ∧ (¬ x1 = 0 → (cy_form_78 post J4 x1 x2 x3 x4 x5 0 z0 u)))) := sorry
theorem uy_form_58 (post : Int32 → SY → Prop) (J4 : Int32 → Int32 → SY → Prop) (x1 : Int32) (x2 : Int32) (x3 : Int32) (x4 : Int32) (z0 : Int32) (u : SY) : cy_form_58 post J4 x1 x2 x3 x4 z0 u = (((x3 = 0 → (cy_form_69 post J4 x1 x2 x3 x4 z0 1 u)) ∧ (¬ x3 = 0 → (cy_form_69 post J4 x1 x2 x3 x4 z0 0 u)))) := sorry
theorem uy_form_40 (post : Int32 → SY → Prop) (J4 : Int32 → Int32 → SY → Prop) (x1 : Int32) (x2 : Int32) (x3 : Int32) (z0 : Int32) (u : SY) : cy_form_40 post J4 x1 x2 x3 z0 u = (((x1 ≤ 0 → (cy_form_58 post J4 x1 x2 x3 z0 0 u)) ∧ (¬ x1 ≤ 0 → (vp_in (x1 - 1) 60 ∧ (cy_form_58 post J4 x1 x2 x3 z0 ((ya_seen u) (x1 - 1).toNatClampNeg) u))))) := sorry
theorem uy_form_4 (post : Int32 → SY → Prop) (n : Nat) (x1 : Int32) (x2 : Int32) (u : SY) : cy_form_4 post (n + 1) x1 x2 u = ((((ya_lines u) ≤ x2 → (((0 < x1 → (post (ya_lines u) u)) ∧ (¬ 0 < x1 → ((((ya_lines u) = 0 → (post (ya_lines u) u)) ∧ (¬ (ya_lines u) = 0 → (post (-1) u)))))))) ∧ (¬ (ya_lines u) ≤ x2 → (vp_in x2 60 ∧ (∀ x3_5, x3_5 = (ya_kind u) x2.toNatClampNeg → (((x1 ≤ 0 → (cy_form_40 post (cy_form_4 post n) x1 x2 x3_5 (-1) u)) ∧ (¬ x1 ≤ 0 → (vp_in (x1 - 1) 60 ∧ (vp_in ((ya_open u) (x1 - 1).toNatClampNeg) 60 ∧ (cy_form_40 post (cy_form_4 post n) x1 x2 x3_5 ((ya_kind u) ((ya_open u) (x1 - 1).toNatClampNeg).toNatClampNeg) u))))))))))) := sorry
theorem uy_form (post : Int32 → SY → Prop) (u : SY) : wpY_form post u = (∃ n4 : Nat, cy_form_4 post n4 0 0 u) := sorry
theorem uy_function_4 (post : Int32 → Prop) (u : SY) (n : Nat) (x2 : Int32) (x3 : Int32) : cy_function_4 post u (n + 1) x2 x3 = ((((ya_lines u) ≤ x3 → (post (-1))) ∧ (¬ (ya_lines u) ≤ x3 → (vp_in x3 60 ∧ (((((ya_kind u) x3.toNatClampNeg) = 0 → (∀ x2_5, x2_5 = x2 + (-1) → (((x2 = 0 → (post x3)) ∧ (¬ x2 = 0 → (∀ x3_7, x3_7 = x3 + 1 → (cy_function_4 post u n x2_5 x3_7))))))) ∧ (¬ ((ya_kind u) x3.toNatClampNeg) = 0 → (∀ x3_4, x3_4 = x3 + 1 → (cy_function_4 post u n x2 x3_4))))))))) := sorry
theorem uy_function (post : Int32 → Prop) (u : SY) (p0 : Int32) : wpY_function post u p0 = (∃ n4 : Nat, cy_function_4 post u n4 p0 0) := sorry
theorem uy_callee_2 (post : Int32 → Prop) (u : SY) (n : Nat) (x1 : Int32) : cy_callee_2 post u (n + 1) x1 = ((((ya_lines u) ≤ x1 → (post (-1))) ∧ (¬ (ya_lines u) ≤ x1 → (vp_in x1 60 ∧ (((((ya_kind u) x1.toNatClampNeg) < 14 → (∀ x1_4, x1_4 = x1 + 1 → (cy_callee_2 post u n x1_4))) ∧ (¬ ((ya_kind u) x1.toNatClampNeg) < 14 → (vp_in x1 60 ∧ (((16 < ((ya_kind u) x1.toNatClampNeg) → (∀ x1_7, x1_7 = x1 + 1 → (cy_callee_2 post u n x1_7))) ∧ (¬ 16 < ((ya_kind u) x1.toNatClampNeg) → (vp_in x1 60 ∧ (wpY_function (fun r_9 => (((0 ≤ r_9 → (∀ x1_52, x1_52 = x1 + 1 → (cy_callee_2 post u n x1_52))) ∧ (¬ 0 ≤ r_9 → (post x1))))) u ((ya_opA u) x1.toNatClampNeg)))))))))))))) := sorry
theorem uy_callee (post : Int32 → Prop) (u : SY) : wpY_callee post u = (∃ n2 : Nat, cy_callee_2 post u n2 0) := sorry
theorem uy_opener_57 (post : Int32 → Prop) (u : SY) (n : Nat) (x3 : Int32) : cy_opener_57 post u (n + 1) x3 = (((x3 ≤ 0 → (post x3)) ∧ (¬ x3 ≤ 0 → (vp_in x3 60 ∧ (((((ya_kind u) x3.toNatClampNeg) = 0 → (post x3)) ∧ (¬ ((ya_kind u) x3.toNatClampNeg) = 0 → (∀ x3_7, x3_7 = x3 + (-1) → (cy_opener_57 post u n x3_7))))))))) := sorry
theorem uy_opener_6 (post : Int32 → Prop) (x1 : Int32) (u : SY) (n : Nat) (x2 : Int32) (x3 : Int32) : cy_opener_6 post x1 u (n + 1) x2 x3 = (((x3 ≤ 0 → (∀ x3_3, x3_3 = x1 - 1 → (∃ n57 : Nat, cy_opener_57 post u n57 x3_3))) ∧ (¬ x3 ≤ 0 → (vp_in x3 60 ∧ (((((ya_kind u) x3.toNatClampNeg) = 1 → (∀ x2_17, x2_17 = x2 + 1 → (∀ x3_18, x3_18 = x3 + (-1) → (cy_opener_6 post x1 u n x2_17 x3_18)))) ∧ (¬ ((ya_kind u) x3.toNatClampNeg) = 1 → (vp_in x3 60 ∧ (wpY_opens (fun r_11 => (((r_11 = 0 → (∀ x3_13, x3_13 = x3 + (-1) → (cy_opener_6 post x1 u n x2 x3_13))) ∧ (¬ r_11 = 0 → (∀ x2_14, x2_14 = x2 + (-1) → (((x2 = 0 → (post x3)) ∧ (¬ x2 = 0 → (∀ x3_16, x3_16 = x3 + (-1) → (cy_opener_6 post x1 u n x2_14 x3_16)))))))))) ((ya_kind u) x3.toNatClampNeg)))))))))) := sorry
theorem uy_opener (post : Int32 → Prop) (u : SY) (p0 : Int32) : wpY_opener post u p0 = (∀ x3_1, x3_1 = p0 - 1 → (∃ n6 : Nat, cy_opener_6 post p0 u n6 0 x3_1)) := sorry
theorem uy_endOf_6 (post : Int32 → Prop) (u : SY) (n : Nat) (x2 : Int32) (x3 : Int32) : cy_endOf_6 post u (n + 1) x2 x3 = ((((ya_lines u) ≤ x3 → (post ((ya_lines u) - 1))) ∧ (¬ (ya_lines u) ≤ x3 → (vp_in x3 60 ∧ (wpY_opens (fun r_4 => (((r_4 = 0 → (vp_in x3 60 ∧ (((((ya_kind u) x3.toNatClampNeg) = 1 → (∀ x2_9, x2_9 = x2 + (-1) → (((x2 = 0 → (post x3)) ∧ (¬ x2 = 0 → (∀ x3_11, x3_11 = x3 + 1 → (cy_endOf_6 post u n x2_9 x3_11))))))) ∧ (¬ ((ya_kind u) x3.toNatClampNeg) = 1 → (∀ x3_8, x3_8 = x3 + 1 → (cy_endOf_6 post u n x2 x3_8))))))) ∧ (¬ r_4 = 0 → (∀ x2_12, x2_12 = x2 + 1 → (∀ x3_13, x3_13 = x3 + 1 → (cy_endOf_6 post u n x2_12 x3_13))))))) ((ya_kind u) x3.toNatClampNeg)))))) := sorry
theorem uy_endOf (post : Int32 → Prop) (u : SY) (p0 : Int32) : wpY_endOf post u p0 = (∀ x3_1, x3_1 = p0 + 1 → (∃ n6 : Nat, cy_endOf_6 post u n6 0 x3_1)) := sorry
theorem uy_settle_40 (post : Int32 → Prop) (J4 : Int32 → Int32 → Prop) (x2 : Int32) (x3 : Int32) (u : SY) : cy_settle_40 post J4 x2 x3 u = (wpY_opener (fun r_5 => (vp_in r_5 60 ∧ (((((ya_kind u) r_5.toNatClampNeg) = 0 → (post x2)) ∧ (¬ ((ya_kind u) r_5.toNatClampNeg) = 0 → (vp_in r_5 60 ∧ (((((ya_kind u) r_5.toNatClampNeg) = 4 → (post r_5)) ∧ (¬ ((ya_kind u) r_5.toNatClampNeg) = 4 → (wpY_endOf (fun r_51 => (∀ x2_93, x2_93 = r_51 + 1 → (∀ x3_94, x3_94 = x3 + 1 → (J4 x2_93 x3_94)))) u r_5)))))))))) u x2) := sorry
theorem uy_settle_4 (post : Int32 → Prop) (u : SY) (n : Nat) (x2 : Int32) (x3 : Int32) : cy_settle_4 post u (n + 1) x2 x3 = (((120 ≤ x3 → (post x2)) ∧ (¬ 120 ≤ x3 → (vp_in x2 60 ∧ (∀ x4_3, x4_3 = (ya_kind u) x2.toNatClampNeg → (((x4_3 = 1 → (cy_settle_40 post (cy_settle_4 post u n) x2 x3 u)) ∧ (¬ x4_3 = 1 → (((x4_3 = 3 → (cy_settle_40 post (cy_settle_4 post u n) x2 x3 u)) ∧ (¬ x4_3 = 3 → (wpY_section (fun r_96 => (((r_96 = 0 → (post x2)) ∧ (¬ r_96 = 0 → (cy_settle_40 post (cy_settle_4 post u n) x2 x3 u))))) x4_3)))))))))))) := sorry
theorem uy_settle (post : Int32 → Prop) (u : SY) (p0 : Int32) : wpY_settle post u p0 = (∃ n4 : Nat, cy_settle_4 post u n4 p0 0) := sorry
theorem uy_reach_32 (post : Int32 → SY → Prop) (x3 : Int32) (x4 : Int32) (z0 : Int32) (z1 : Int32) (u : SY) : cy_reach_32 post x3 x4 z0 z1 u = (vp_in z1 60 ∧ ∀ a_unset_47, a_unset_47 = upd (ya_unset u) z1.toNatClampNeg (vp_nar .byte z0.toInt8.toInt32) → (vp_in x3 60 ∧ ((((a_unset_47 x3.toNatClampNeg) = x4 → (post 0 (ys_unset u a_unset_47))) ∧ (¬ (a_unset_47 x3.toNatClampNeg) = x4 → (post 1 (ys_unset u a_unset_47))))))) := sorry
theorem uy_reach (post : Int32 → SY → Prop) (u : SY) (p0 : Int32) (p1 : Int32) : wpY_reach post u p0 p1 = (wpY_settle (fun r_1 => (vp_in r_1 60 ∧ (∀ x4_44, x4_44 = (ya_unset u) r_1.toNatClampNeg → (((0 ≤ x4_44 → (cy_reach_32 post r_1 x4_44 (x4_44 ||| p1) r_1 u)) ∧ (¬ 0 ≤ x4_44 → (cy_reach_32 post r_1 x4_44 p1 r_1 u))))))) u p0) := sorry
theorem uy_part_14 (post : Int32 → Prop) (x3 : Int32) (u : SY) (n : Nat) (x4 : Int32) (x5 : Int32) : cy_part_14 post x3 u (n + 1) x4 x5 = (((x3 ≤ x5 → (post (-1))) ∧ (¬ x3 ≤ x5 → (vp_in x5 60 ∧ (wpY_opens (fun r_46 => (((r_46 = 0 → (vp_in x5 60 ∧ (((((ya_kind u) x5.toNatClampNeg) = 1 → (∀ x4_58, x4_58 = x4 + (-1) → (∀ x5_59, x5_59 = x5 + 1 → (cy_part_14 post x3 u n x4_58 x5_59)))) ∧ (¬ ((ya_kind u) x5.toNatClampNeg) = 1 → (((x4 = 0 → (vp_in x5 60 ∧ (((((ya_kind u) x5.toNatClampNeg) = 3 → (post x5)) ∧ (¬ ((ya_kind u) x5.toNatClampNeg) = 3 → (vp_in x5 60 ∧ (wpY_section (fun r_55 => (((r_55 = 0 → (∀ x5_57, x5_57 = x5 + 1 → (cy_part_14 post x3 u n x4 x5_57))) ∧ (¬ r_55 = 0 → (post x5))))) ((ya_kind u) x5.toNatClampNeg)))))))) ∧ (¬ x4 = 0 → (∀ x5_51, x5_51 = x5 + 1 → (cy_part_14 post x3 u n x4 x5_51)))))))))) ∧ (¬ r_46 = 0 → (∀ x4_60, x4_60 = x4 + 1 → (∀ x5_61, x5_61 = x5 + 1 → (cy_part_14 post x3 u n x4_60 x5_61))))))) ((ya_kind u) x5.toNatClampNeg)))))) := sorry
theorem uy_part (post : Int32 → Prop) (u : SY) (p0 : Int32) (p1 : Int32) : wpY_part post u p0 p1 = (wpY_endOf (fun r_1 => (∀ x5_43, x5_43 = p1 + 1 → (∃ n14 : Nat, cy_part_14 post r_1 u n14 0 x5_43))) u p0) := sorry
theorem uy_spread_273 (post : Int32 → SY → Prop) (x1 : Int32) (x2 : Int32) (x3 : Int32) (x4 : Int32) (u : SY) : cy_spread_273 post x1 x2 x3 x4 u = (((x2 = 4 → (wpY_endOf (fun r_58 => (∀ x5_100, x5_100 = r_58 + 1 → (wpY_reach (fun r_101 u102 => (∀ x4_143, x4_143 = x4 ||| r_101 → (narrow .boolean (.int x4_143) = .int x4_143 ∧ (post x4_143 u102)))) u x5_100 x3))) u x1)) ∧ (¬ x2 = 4 → (narrow .boolean (.int x4) = .int x4 ∧ (post x4 u))))) := sorry
theorem uy_spread_259 (post : Int32 → SY → Prop) (x1 : Int32) (x2 : Int32) (x3 : Int32) (x4 : Int32) (z0 : Int32) (u : SY) : cy_spread_259 post x1 x2 x3 x4 z0 u = (wpY_reach (fun r_188 u189 => (∀ x4_230, x4_230 = x4 ||| r_188 → (cy_spread_273 post x1 x2 x3 x4_230 u189))) u z0 x3) := sorry
theorem uy_spread_185 (post : Int32 → SY → Prop) (J141 : Int32 → Int32 → SY → Prop) (x1 : Int32) (x3 : Int32) (x4 : Int32) (x5 : Int32) (z0 : Int32) (u : SY) : cy_spread_185 post J141 x1 x3 x4 x5 z0 u = (wpY_reach (fun r_319 u320 => (∀ x4_361, x4_361 = x4 ||| r_319 → (wpY_part (fun r_362 => (J141 x4_361 r_362 u320)) u320 x1 x5))) u (x5 + 1) z0) := sorry
theorem uy_spread_141 (post : Int32 → SY → Prop) (x1 : Int32) (x3 : Int32) (n : Nat) (x4 : Int32) (x5 : Int32) (u : SY) : cy_spread_141 post x1 x3 (n + 1) x4 x5 u = (((x5 < 0 → (narrow .boolean (.int x4) = .int x4 ∧ (post x4 u))) ∧ (¬ x5 < 0 → (vp_in x5 60 ∧ (((((ya_kind u) x5.toNatClampNeg) = 8 → (vp_in x5 60 ∧ (vp_in x5 60 ∧ (cy_spread_185 post (cy_spread_141 post x1 x3 n) x1 x3 x4 x5 (x3 &&& ((((1 : Int32) <<< (((ya_opA u) x5.toNatClampNeg) &&& 31)) ||| ((1 : Int32) <<< (((ya_opC u) x5.toNatClampNeg) &&& 31))) ^^^ (-1))) u)))) ∧ (¬ ((ya_kind u) x5.toNatClampNeg) = 8 → (cy_spread_185 post (cy_spread_141 post x1 x3 n) x1 x3 x4 x5 x3 u)))))))) := sorry
theorem uy_spread_84 (post : Int32 → SY → Prop) (x3 : Int32) (u : SY) (n : Nat) (x4 : Int32) : cy_spread_84 post x3 u (n + 1) x4 = (vp_in x4 60 ∧ (((((ya_kind u) x4.toNatClampNeg) = 4 → (wpY_endOf (fun r_450 => (∀ x5_492, x5_492 = r_450 + 1 → (wpY_reach (fun r_493 u494 => (narrow .boolean (.int r_493) = .int r_493 ∧ (post r_493 u494))) u x5_492 x3))) u x4)) ∧ (¬ ((ya_kind u) x4.toNatClampNeg) = 4 → (wpY_opener (fun r_536 => (cy_spread_84 post x3 u n r_536)) u x4))))) := sorry
theorem uy_spread_53 (post : Int32 → SY → Prop) (x1 : Int32) (x2 : Int32) (x3 : Int32) (u : SY) : cy_spread_53 post x1 x2 x3 u = (((x2 = 1 → (post 0 u)) ∧ (¬ x2 = 1 → (((x2 = 17 → (post 0 u)) ∧ (¬ x2 = 17 → (((x2 = 18 → (post 0 u)) ∧ (¬ x2 = 18 → (((x2 = 5 → (wpY_opener (fun r_406 => (∃ n84 : Nat, cy_spread_84 post x3 u n84 r_406)) u x1)) ∧ (¬ x2 = 5 → (((x2 = 6 → (wpY_part (fun r_273 => (∃ n141 : Nat, cy_spread_141 post x1 x3 n141 0 r_273 u)) u x1 x1)) ∧ (¬ x2 = 6 → (wpY_reach (fun r_13 u14 => (((x2 = 2 → (wpY_part (fun r_145 => (((0 ≤ r_145 → (cy_spread_259 post x1 x2 x3 r_13 (r_145 + 1) u14)) ∧ (¬ 0 ≤ r_145 → (wpY_endOf (fun r_231 => (cy_spread_259 post x1 x2 x3 r_13 (r_231 + 1) u14)) u14 x1))))) u14 x1 x1)) ∧ (¬ x2 = 2 → (cy_spread_273 post x1 x2 x3 r_13 u14))))) u (x1 + 1) x3)))))))))))))))) := sorry
theorem uy_spread_34 (post : Int32 → SY → Prop) (x1 : Int32) (x2 : Int32) (x3 : Int32) (u : SY) : cy_spread_34 post x1 x2 x3 u = (((x2 = 11 → (vp_in x1 60 ∧ (∀ x3_579, x3_579 = x3 &&& (((1 : Int32) <<< (((ya_opC u) x1.toNatClampNeg) &&& 31)) ^^^ (-1)) → (cy_spread_53 post x1 x2 x3_579 u)))) ∧ (¬ x2 = 11 → (cy_spread_53 post x1 x2 x3 u)))) := sorry
theorem uy_spread (post : Int32 → SY → Prop) (u : SY) (p0 : Int32) : wpY_spread post u p0 = (vp_in p0 60 ∧ (∀ x2_2, x2_2 = (ya_kind u) p0.toNatClampNeg → (vp_in p0 60 ∧ (∀ x3_4, x3_4 = (ya_unset u) p0.toNatClampNeg → (wpY_sets (fun r_5 => (((r_5 = 0 → (cy_spread_34 post p0 x2_2 x3_4 u)) ∧ (¬ r_5 = 0 → (vp_in p0 60 ∧ (∀ x3_581, x3_581 = x3_4 &&& (((1 : Int32) <<< (((ya_opA u) p0.toNatClampNeg) &&& 31)) ^^^ (-1)) → (cy_spread_34 post p0 x2_2 x3_581 u))))))) x2_2))))) := sorry
theorem uy_bit (post : Int32 → Prop) (u : SY) (p0 : Int32) : wpY_bit post u p0 = (((p0 < 0 → (post 0)) ∧ (¬ p0 < 0 → (((5 < p0 → (post 0)) ∧ (¬ 5 < p0 → (post ((1 : Int32) <<< (p0 &&& 31))))))))) := sorry
theorem uy_params (post : Int32 → Prop) (u : SY) (p0 : Int32) : wpY_params post u p0 = (wpY_function (fun r_1 => (vp_in r_1 60 ∧ (post ((ya_opA u) r_1.toNatClampNeg)))) u p0) := sorry
theorem uy_reads_343 (post : Int32 → Prop) (x2 : Int32) (x4 : Int32) (x5 : Int32) (u : SY) : cy_reads_343 post x2 x4 x5 u = (((x2 < 22 → (post 0)) ∧ (¬ x2 < 22 → (((27 < x2 → (post 0)) ∧ (¬ 27 < x2 → (post (x4 ||| x5)))))))) := sorry
theorem uy_reads_328 (post : Int32 → Prop) (J227 : Int32 → Int32 → Prop) (x1 : Int32) (x6 : Int32) (x7 : Int32) (u : SY) : cy_reads_328 post J227 x1 x6 x7 u = (wpY_part (fun r_190 => (J227 x6 r_190)) u x1 x7) := sorry
theorem uy_reads_300 (post : Int32 → Prop) (J227 : Int32 → Int32 → Prop) (x1 : Int32) (x6 : Int32) (x7 : Int32) (u : SY) : cy_reads_300 post J227 x1 x6 x7 u = (vp_in x7 60 ∧ (((((ya_kind u) x7.toNatClampNeg) = 29 → (vp_in x7 60 ∧ (wpY_bit (fun r_233 => (∀ x6_275, x6_275 = x6 ||| r_233 → (cy_reads_328 post J227 x1 x6_275 x7 u))) u ((ya_opA u) x7.toNatClampNeg)))) ∧ (¬ ((ya_kind u) x7.toNatClampNeg) = 29 → (cy_reads_328 post J227 x1 x6 x7 u))))) := sorry
theorem uy_reads_272 (post : Int32 → Prop) (J227 : Int32 → Int32 → Prop) (x1 : Int32) (x6 : Int32) (x7 : Int32) (u : SY) : cy_reads_272 post J227 x1 x6 x7 u = (vp_in x7 60 ∧ (((((ya_kind u) x7.toNatClampNeg) = 8 → (vp_in x7 60 ∧ (wpY_bit (fun r_277 => (∀ x6_319, x6_319 = x6 ||| r_277 → (cy_reads_300 post J227 x1 x6_319 x7 u))) u ((ya_opB u) x7.toNatClampNeg)))) ∧ (¬ ((ya_kind u) x7.toNatClampNeg) = 8 → (cy_reads_300 post J227 x1 x6 x7 u))))) := sorry
theorem uy_reads_227 (post : Int32 → Prop) (x1 : Int32) (u : SY) (n : Nat) (x6 : Int32) (x7 : Int32) : cy_reads_227 post x1 u (n + 1) x6 x7 = (((x7 < 0 → (post x6)) ∧ (¬ x7 < 0 → (vp_in x7 60 ∧ (((((ya_kind u) x7.toNatClampNeg) = 7 → (vp_in x7 60 ∧ (wpY_bit (fun r_321 => (vp_in x7 60 ∧ (wpY_bit (fun r_364 => (∀ x6_406, x6_406 = x6 ||| (r_321 ||| r_364) → (cy_reads_272 post (cy_reads_227 post x1 u n) x1 x6_406 x7 u))) u ((ya_opB u) x7.toNatClampNeg)))) u ((ya_opA u) x7.toNatClampNeg)))) ∧ (¬ ((ya_kind u) x7.toNatClampNeg) = 7 → (cy_reads_272 post (cy_reads_227 post x1 u n) x1 x6 x7 u)))))))) := sorry
theorem uy_reads_174 (post : Int32 → Prop) (x1 : Int32) (x4 : Int32) (x5 : Int32) (u : SY) : cy_reads_174 post x1 x4 x5 u = (vp_in x1 60 ∧ (wpY_params (fun r_416 => (((r_416 = 0 → (post 0)) ∧ (¬ r_416 = 0 → (vp_in x1 60 ∧ (wpY_params (fun r_460 => (((r_460 = 1 → (post x4)) ∧ (¬ r_460 = 1 → (post (x4 ||| x5)))))) u ((ya_opA u) x1.toNatClampNeg))))))) u ((ya_opA u) x1.toNatClampNeg))) := sorry
theorem uy_reads (post : Int32 → Prop) (u : SY) (p0 : Int32) : wpY_reads post u p0 = (vp_in p0 60 ∧ (∀ x2_2, x2_2 = (ya_kind u) p0.toNatClampNeg → (vp_in p0 60 ∧ (wpY_bit (fun r_4 => (vp_in p0 60 ∧ (wpY_bit (fun r_47 => (vp_in p0 60 ∧ (wpY_bit (fun r_90 => (((x2_2 < 2 → (cy_reads_343 post x2_2 r_47 r_90 u)) ∧ (¬ x2_2 < 2 → (((28 < x2_2 → (cy_reads_343 post x2_2 r_47 r_90 u)) ∧ (¬ 28 < x2_2 → (((x2_2 = 2 → (post r_4)) ∧ (¬ x2_2 = 2 → (((x2_2 = 3 → (cy_reads_343 post x2_2 r_47 r_90 u)) ∧ (¬ x2_2 = 3 → (((x2_2 = 4 → (post r_4)) ∧ (¬ x2_2 = 4 → (((x2_2 = 5 → (cy_reads_343 post x2_2 r_47 r_90 u)) ∧ (¬ x2_2 = 5 → (((x2_2 = 6 → (wpY_part (fun r_141 => (∃ n227 : Nat, cy_reads_227 post p0 u n227 0 r_141)) u p0 p0)) ∧ (¬ x2_2 = 6 → (((x2_2 = 7 → (cy_reads_343 post x2_2 r_47 r_90 u)) ∧ (¬ x2_2 = 7 → (((x2_2 = 8 → (cy_reads_343 post x2_2 r_47 r_90 u)) ∧ (¬ x2_2 = 8 → (((x2_2 = 9 → (cy_reads_343 post x2_2 r_47 r_90 u)) ∧ (¬ x2_2 = 9 → (((x2_2 = 10 → (post (r_4 ||| r_47))) ∧ (¬ x2_2 = 10 → (((x2_2 = 11 → (post r_47)) ∧ (¬ x2_2 = 11 → (((x2_2 = 12 → (post r_4)) ∧ (¬ x2_2 = 12 → (((x2_2 = 13 → (cy_reads_343 post x2_2 r_47 r_90 u)) ∧ (¬ x2_2 = 13 → (((x2_2 = 14 → (cy_reads_174 post p0 r_47 r_90 u)) ∧ (¬ x2_2 = 14 → (((x2_2 = 15 → (cy_reads_174 post p0 r_47 r_90 u)) ∧ (¬ x2_2 = 15 → (((x2_2 = 16 → (cy_reads_174 post p0 r_47 r_90 u)) ∧ (¬ x2_2 = 16 → (((x2_2 = 17 → (cy_reads_343 post x2_2 r_47 r_90 u)) ∧ (¬ x2_2 = 17 → (((x2_2 = 18 → (post r_4)) ∧ (¬ x2_2 = 18 → (((x2_2 = 19 → (cy_reads_343 post x2_2 r_47 r_90 u)) ∧ (¬ x2_2 = 19 → (((x2_2 = 20 → (post r_4)) ∧ (¬ x2_2 = 20 → (((x2_2 = 21 → (post r_47)) ∧ (¬ x2_2 = 21 → (((x2_2 = 22 → (cy_reads_343 post x2_2 r_47 r_90 u)) ∧ (¬ x2_2 = 22 → (((x2_2 = 23 → (cy_reads_343 post x2_2 r_47 r_90 u)) ∧ (¬ x2_2 = 23 → (((x2_2 = 24 → (cy_reads_343 post x2_2 r_47 r_90 u)) ∧ (¬ x2_2 = 24 → (((x2_2 = 25 → (cy_reads_343 post x2_2 r_47 r_90 u)) ∧ (¬ x2_2 = 25 → (((x2_2 = 26 → (cy_reads_343 post x2_2 r_47 r_90 u)) ∧ (¬ x2_2 = 26 → (((x2_2 = 27 → (cy_reads_343 post x2_2 r_47 r_90 u)) ∧ (¬ x2_2 = 27 → (((x2_2 = 28 → (post r_4)) ∧ (¬ x2_2 = 28 → (True))))))))))))))))))))))))))))))))))))))))))))))))))))))))))))))))))))))))))))))))))))))))) u ((ya_opC u) p0.toNatClampNeg)))) u ((ya_opB u) p0.toNatClampNeg)))) u ((ya_opA u) p0.toNatClampNeg))))) := sorry
theorem uy_unsetLine_109 (post : Int32 → SY → Prop) (u : SY) (n : Nat) (x2 : Int32) : cy_unsetLine_109 post u (n + 1) x2 = ((((ya_lines u) ≤ x2 → (post (-1) u)) ∧ (¬ (ya_lines u) ≤ x2 → (vp_in x2 60 ∧ (((((ya_unset u) x2.toNatClampNeg) < 0 → (∀ x2_6, x2_6 = x2 + 1 → (cy_unsetLine_109 post u n x2_6))) ∧ (¬ ((ya_unset u) x2.toNatClampNeg) < 0 → (vp_in x2 60 ∧ (wpY_reads (fun r_8 => ((((((ya_unset u) x2.toNatClampNeg) &&& r_8) = 0 → (∀ x2_51, x2_51 = x2 + 1 → (cy_unsetLine_109 post u n x2_51))) ∧ (¬ (((ya_unset u) x2.toNatClampNeg) &&& r_8) = 0 → (post x2 u))))) u x2))))))))) := sorry
theorem uy_unsetLine_70 (post : Int32 → SY → Prop) (J55 : Int32 → Int32 → SY → Prop) (x2 : Int32) (n : Nat) (x1 : Int32) (x3 : Int32) (u : SY) : cy_unsetLine_70 post J55 x2 (n + 1) x1 x3 u = ((((ya_lines u) ≤ x3 → (∀ x2_54, x2_54 = x2 + 1 → (J55 x1 x2_54 u))) ∧ (¬ (ya_lines u) ≤ x3 → (vp_in x3 60 ∧ (((((ya_unset u) x3.toNatClampNeg) < 0 → (∀ x3_57, x3_57 = x3 + 1 → (cy_unsetLine_70 post J55 x2 n x1 x3_57 u))) ∧ (¬ ((ya_unset u) x3.toNatClampNeg) < 0 → (wpY_spread (fun r_58 u59 => (∀ x1_100, x1_100 = x1 ||| r_58 → (∀ x3_101, x3_101 = x3 + 1 → (cy_unsetLine_70 post J55 x2 n x1_100 x3_101 u59)))) u x3)))))))) := sorry
theorem uy_unsetLine_55 (post : Int32 → SY → Prop) (n : Nat) (x1 : Int32) (x2 : Int32) (u : SY) : cy_unsetLine_55 post (n + 1) x1 x2 u = (((500 ≤ x2 → (∃ n109 : Nat, cy_unsetLine_109 post u n109 0)) ∧ (¬ 500 ≤ x2 → (((x1 = 0 → (∃ n109 : Nat, cy_unsetLine_109 post u n109 0)) ∧ (¬ x1 = 0 → (∃ n70 : Nat, cy_unsetLine_70 post (cy_unsetLine_55 post n) x2 n70 0 0 u))))))) := sorry
theorem uy_unsetLine_2 (post : Int32 → SY → Prop) (n : Nat) (x1 : Int32) (u : SY) : cy_unsetLine_2 post (n + 1) x1 u = ((((ya_lines u) ≤ x1 → (∃ n55 : Nat, cy_unsetLine_55 post n55 1 0 u)) ∧ (¬ (ya_lines u) ≤ x1 → (vp_in x1 60 ∧ (((((ya_kind u) x1.toNatClampNeg) = 0 → (vp_in x1 60 ∧ (vp_in x1 60 ∧ ∀ a_unset_109, a_unset_109 = upd (ya_unset u) x1.toNatClampNeg (vp_nar .byte ((63 &&& ((((1 : Int32) <<< (((ya_opA u) x1.toNatClampNeg) &&& 31)) - 1) ^^^ (-1))).toInt8.toInt32)) → (∀ x1_110, x1_110 = x1 + 1 → (cy_unsetLine_2 post n x1_110 (ys_unset u a_unset_109)))))) ∧ (¬ ((ya_kind u) x1.toNatClampNeg) = 0 → (vp_in x1 60 ∧ ∀ a_unset_105, a_unset_105 = upd (ya_unset u) x1.toNatClampNeg (vp_nar .byte ((-1 : Int32).toInt8.toInt32)) → (∀ x1_106, x1_106 = x1 + 1 → (cy_unsetLine_2 post n x1_106 (ys_unset u a_unset_105))))))))))) := sorry
theorem uy_unsetLine (post : Int32 → SY → Prop) (u : SY) : wpY_unsetLine post u = (∃ n2 : Nat, cy_unsetLine_2 post n2 0 u) := sorry
theorem uy_enter_90 (post : SY → Prop) (J57 : Int32 → SY → Prop) (x3 : Int32) (x4 : Int32) (x5 : Int32) (x6 : Int32) (x7 : Int32) (z0 : Int32) (u : SY) : cy_enter_90 post J57 x3 x4 x5 x6 x7 z0 u = (((x7 = 1 → (((x6 ≤ 1 → (vp_in z0 288 ∧ ∀ a_vars_107, a_vars_107 = upd (ya_vars u) z0.toNatClampNeg 0 → (∀ x7_108, x7_108 = x7 + 1 → (J57 x7_108 (ys_vars u a_vars_107))))) ∧ (¬ x6 ≤ 1 → (vp_in z0 288 ∧ ∀ a_vars_110, a_vars_110 = upd (ya_vars u) z0.toNatClampNeg x4 → (∀ x7_111, x7_111 = x7 + 1 → (J57 x7_111 (ys_vars u a_vars_110)))))))) ∧ (¬ x7 = 1 → (vp_in z0 288 ∧ ∀ a_vars_103, a_vars_103 = upd (ya_vars u) z0.toNatClampNeg 0 → (∀ x7_104, x7_104 = x7 + 1 → (J57 x7_104 (ys_vars u a_vars_103))))))) := sorry
theorem uy_enter_57 (post : SY → Prop) (x3 : Int32) (x4 : Int32) (x5 : Int32) (x6 : Int32) (n : Nat) (x7 : Int32) (u : SY) : cy_enter_57 post x3 x4 x5 x6 (n + 1) x7 u = (((6 ≤ x7 → (vp_in x5 48 ∧ ∀ a_noted_95, a_noted_95 = upd (ya_noted u) x5.toNatClampNeg (vp_nar .byte 0) → (vp_in x5 48 ∧ ∀ a_asNote_97, a_asNote_97 = upd (ya_asNote u) x5.toNatClampNeg (vp_nar .boolean 0) → (vp_in x5 48 ∧ ∀ a_panics_99, a_panics_99 = upd (ya_panics u) x5.toNatClampNeg (vp_nar .boolean 0) → (post (ys_panics (ys_asNote (ys_noted u a_noted_95) a_asNote_97) a_panics_99)))))) ∧ (¬ 6 ≤ x7 → (((x7 = 0 → (((x6 ≤ 0 → (cy_enter_90 post (cy_enter_57 post x3 x4 x5 x6 n) x3 x4 x5 x6 x7 ((6 * x5) + x7) u)) ∧ (¬ x6 ≤ 0 → (vp_in ((6 * x5) + x7) 288 ∧ ∀ a_vars_114, a_vars_114 = upd (ya_vars u) ((6 * x5) + x7).toNatClampNeg x3 → (∀ x7_115, x7_115 = x7 + 1 → (cy_enter_57 post x3 x4 x5 x6 n x7_115 (ys_vars u a_vars_114)))))))) ∧ (¬ x7 = 0 → (cy_enter_90 post (cy_enter_57 post x3 x4 x5 x6 n) x3 x4 x5 x6 x7 ((6 * x5) + x7) u))))))) := sorry
theorem uy_enter (post : SY → Prop) (u : SY) (p0 : Int32) (p1 : Int32) (p2 : Int32) (p3 : Int32) : wpY_enter post u p0 p1 p2 p3 = (vp_in p0 12 ∧ (((((ya_depth u) p0.toNatClampNeg) = 4 → (post (ys_state u 5))) ∧ (¬ ((ya_depth u) p0.toNatClampNeg) = 4 → (vp_in p0 12 ∧ (vp_in p0 12 ∧ ∀ a_depth_5, a_depth_5 = upd (ya_depth u) p0.toNatClampNeg (vp_nar .byte ((((ya_depth u) p0.toNatClampNeg) + 1).toInt8.toInt32)) → (∀ x5_6, x5_6 = (4 * p0) + ((ya_depth u) p0.toNatClampNeg) → (wpY_params (fun r_7 => (wpY_function (fun r_49 => (vp_in x5_6 48 ∧ ∀ a_pc_92, a_pc_92 = upd (ya_pc u) x5_6.toNatClampNeg (vp_nar .byte r_49.toInt8.toInt32) → (∃ n57 : Nat, cy_enter_57 post p2 p3 x5_6 r_7 n57 0 (ys_pc (ys_depth u a_depth_5) a_pc_92)))) (ys_depth u a_depth_5) p1)) (ys_depth u a_depth_5) p1)))))))) := sorry
theorem uy_ready (post : SY → Prop) (u : SY) (p0 : Int32) : wpY_ready post u p0 = (vp_in p0 12 ∧ ∀ a_status_2, a_status_2 = upd (ya_status u) p0.toNatClampNeg (vp_nar .byte 1) → (∀ f_queued_3, f_queued_3 = (ya_queued u) + 1 → (vp_in (ya_queued u) 12 ∧ ∀ a_queue_5, a_queue_5 = upd (ya_queue u) (ya_queued u).toNatClampNeg (vp_nar .byte p0.toInt8.toInt32) → (post (ys_queue (ys_status (ys_queued u f_queued_3) a_status_2) a_queue_5))))) := sorry
theorem uy_start (post : SY → Prop) (u : SY) (p0 : Int32) (p1 : Int32) (p2 : Int32) : wpY_start post u p0 p1 p2 = (∀ f_started_1, f_started_1 = (ya_started u) + 1 → (wpY_enter (fun u3 => (wpY_ready (fun u45 => (post u45)) u3 (ya_started u))) (ys_started u f_started_1) (ya_started u) p0 p1 p2)) := sorry
theorem uy_check (post : Int32 → SY → Prop) (u : SY) : wpY_check post u = (wpY_idle (fun u2 => (wpY_form (fun r_43 u44 => (((r_43 < 0 → (wpY_callee (fun r_86 => (((r_86 < 0 → (wpY_unsetLine (fun r_129 u130 => (((r_129 < 0 → (wpY_start (fun u173 => (post 0 (ys_queued u173 0))) (ys_state (ys_bad u130 r_129) 1) 0 0 0)) ∧ (¬ r_129 < 0 → (post 3 (ys_bad u130 r_129)))))) (ys_bad u44 r_86))) ∧ (¬ r_86 < 0 → (post 2 (ys_bad u44 r_86)))))) (ys_bad u44 r_43))) ∧ (¬ r_43 < 0 → (post 1 (ys_bad u44 r_43)))))) u2)) u) := sorry
theorem uy_badLine (post : Int32 → Prop) (u : SY) : wpY_badLine post u = (post (ya_bad u)) := sorry
theorem uy_top (post : Int32 → Prop) (u : SY) (p0 : Int32) : wpY_top post u p0 = (vp_in p0 12 ∧ (post (((4 * p0) + ((ya_depth u) p0.toNatClampNeg)) - 1))) := sorry
theorem uy_value_27 (post : Int32 → Prop) (x2 : Int32) (u : SY) : cy_value_27 post x2 u = (((0 ≤ x2 → (post (x2 - 6))) ∧ (¬ 0 ≤ x2 → (post x2)))) := sorry
theorem uy_value (post : Int32 → Prop) (u : SY) (p0 : Int32) (p1 : Int32) : wpY_value post u p0 p1 = (((p1 < 0 → (cy_value_27 post p1 u)) ∧ (¬ p1 < 0 → (((5 < p1 → (cy_value_27 post p1 u)) ∧ (¬ 5 < p1 → (wpY_top (fun r_4 => (vp_in ((6 * r_4) + p1) 288 ∧ (post ((ya_vars u) ((6 * r_4) + p1).toNatClampNeg)))) u p0))))))) := sorry
theorem uy_set (post : SY → Prop) (u : SY) (p0 : Int32) (p1 : Int32) (p2 : Int32) : wpY_set post u p0 p1 p2 = (wpY_top (fun r_1 => (vp_in ((6 * r_1) + p1) 288 ∧ ∀ a_vars_44, a_vars_44 = upd (ya_vars u) ((6 * r_1) + p1).toNatClampNeg p2 → (post (ys_vars u a_vars_44)))) u p0) := sorry
theorem uy_finish (post : SY → Prop) (u : SY) (p0 : Int32) (p1 : Int32) : wpY_finish post u p0 p1 = (vp_in p0 12 ∧ ∀ a_status_2, a_status_2 = upd (ya_status u) p0.toNatClampNeg (vp_nar .byte 3) → (vp_in p1 48 ∧ (((((ya_panics u) p1.toNatClampNeg) = 0 → (((p0 = 0 → (post (ys_status (ys_off (ys_state u 2) 1) a_status_2))) ∧ (¬ p0 = 0 → (post (ys_status (ys_off u 1) a_status_2)))))) ∧ (¬ ((ya_panics u) p1.toNatClampNeg) = 0 → (vp_in p1 48 ∧ (∀ f_panicValue_7, f_panicValue_7 = (ya_panicWith u) p1.toNatClampNeg → (post (ys_status (ys_panicValue (ys_off (ys_state u 3) 1) f_panicValue_7) a_status_2))))))))) := sorry
theorem uy_leave_2 (post : SY → Prop) (x1 : Int32) (n : Nat) (x2 : Int32) (u : SY) : cy_leave_2 post x1 (n + 1) x2 u = (((10 ≤ x2 → (post u)) ∧ (¬ 10 ≤ x2 → (wpY_top (fun r_2 => (vp_in r_2 48 ∧ (((((ya_noted u) r_2.toNatClampNeg) ≤ 0 → (vp_in x1 12 ∧ (vp_in x1 12 ∧ ∀ a_depth_48, a_depth_48 = upd (ya_depth u) x1.toNatClampNeg (vp_nar .byte ((((ya_depth u) x1.toNatClampNeg) - 1).toInt8.toInt32)) → (vp_in x1 12 ∧ ((((a_depth_48 x1.toNatClampNeg) = 0 → (wpY_finish (fun u112 => (post u112)) (ys_depth u a_depth_48) x1 r_2)) ∧ (¬ (a_depth_48 x1.toNatClampNeg) = 0 → (vp_in r_2 48 ∧ (((((ya_panics u) r_2.toNatClampNeg) = 0 → (vp_in r_2 48 ∧ (((((ya_asNote u) r_2.toNatClampNeg) = 0 → (vp_in (r_2 - 1) 48 ∧ (wpY_settle (fun r_57 => (vp_in (r_2 - 1) 48 ∧ ∀ a_pc_100, a_pc_100 = upd (ya_pc u) (r_2 - 1).toNatClampNeg (vp_nar .byte r_57.toInt8.toInt32) → (vp_in (r_2 - 1) 48 ∧ (vp_in (a_pc_100 (r_2 - 1).toNatClampNeg) 60 ∧ (((((ya_kind u) (a_pc_100 (r_2 - 1).toNatClampNeg).toNatClampNeg) = 1 → (∀ x2_104, x2_104 = x2 + 1 → (cy_leave_2 post x1 n x2_104 (ys_pc (ys_depth u a_depth_48) a_pc_100)))) ∧ (¬ ((ya_kind u) (a_pc_100 (r_2 - 1).toNatClampNeg).toNatClampNeg) = 1 → (post (ys_pc (ys_depth u a_depth_48) a_pc_100))))))))) (ys_depth u a_depth_48) (((ya_pc u) (r_2 - 1).toNatClampNeg) + 1)))) ∧ (¬ ((ya_asNote u) r_2.toNatClampNeg) = 0 → (∀ x2_55, x2_55 = x2 + 1 → (cy_leave_2 post x1 n x2_55 (ys_depth u a_depth_48)))))))) ∧ (¬ ((ya_panics u) r_2.toNatClampNeg) = 0 → (vp_in (r_2 - 1) 48 ∧ ∀ a_panics_106, a_panics_106 = upd (ya_panics u) (r_2 - 1).toNatClampNeg (vp_nar .boolean 1) → (vp_in r_2 48 ∧ (vp_in (r_2 - 1) 48 ∧ ∀ a_panicWith_109, a_panicWith_109 = upd (ya_panicWith u) (r_2 - 1).toNatClampNeg ((ya_panicWith u) r_2.toNatClampNeg) → (∀ x2_110, x2_110 = x2 + 1 → (cy_leave_2 post x1 n x2_110 (ys_panicWith (ys_panics (ys_depth u a_depth_48) a_panics_106) a_panicWith_109))))))))))))))))) ∧ (¬ ((ya_noted u) r_2.toNatClampNeg) ≤ 0 → (vp_in r_2 48 ∧ (∀ x4_154, x4_154 = ((3 * r_2) + ((ya_noted u) r_2.toNatClampNeg)) - 1 → (vp_in x4_154 144 ∧ (vp_in x4_154 144 ∧ (vp_in x4_154 144 ∧ (wpY_enter (fun u159 => ((((ya_state u159) = 1 → (vp_in r_2 48 ∧ (vp_in r_2 48 ∧ ∀ a_noted_203, a_noted_203 = upd (ya_noted u159) r_2.toNatClampNeg (vp_nar .byte ((((ya_noted u159) r_2.toNatClampNeg) - 1).toInt8.toInt32)) → (wpY_top (fun r_204 => (vp_in r_204 48 ∧ ∀ a_asNote_247, a_asNote_247 = upd (ya_asNote u159) r_204.toNatClampNeg (vp_nar .boolean 1) → (post (ys_asNote (ys_noted u159 a_noted_203) a_asNote_247)))) (ys_noted u159 a_noted_203) x1)))) ∧ (¬ (ya_state u159) = 1 → (post u159))))) u x1 ((ya_noteOf u) x4_154.toNatClampNeg) ((ya_noteB u) x4_154.toNatClampNeg) ((ya_noteC u) x4_154.toNatClampNeg)))))))))))) u x1)))) := sorry
theorem uy_leave (post : SY → Prop) (u : SY) (p0 : Int32) : wpY_leave post u p0 = (∃ n2 : Nat, cy_leave_2 post p0 n2 0 u) := sorry
theorem uy_goOn (post : SY → Prop) (u : SY) (p0 : Int32) (p1 : Int32) : wpY_goOn post u p0 p1 = (wpY_top (fun r_1 => (wpY_settle (fun r_43 => (vp_in r_1 48 ∧ ∀ a_pc_86, a_pc_86 = upd (ya_pc u) r_1.toNatClampNeg (vp_nar .byte r_43.toInt8.toInt32) → (wpY_top (fun r_87 => (vp_in r_87 48 ∧ (vp_in (a_pc_86 r_87.toNatClampNeg) 60 ∧ (((((ya_kind u) (a_pc_86 r_87.toNatClampNeg).toNatClampNeg) = 1 → (wpY_leave (fun u133 => (post u133)) (ys_pc u a_pc_86) p0)) ∧ (¬ ((ya_kind u) (a_pc_86 r_87.toNatClampNeg).toNatClampNeg) = 1 → (post (ys_pc u a_pc_86)))))))) (ys_pc u a_pc_86) p0))) u p1)) u p0) := sorry
theorem uy_panic (post : SY → Prop) (u : SY) (p0 : Int32) (p1 : Int32) : wpY_panic post u p0 p1 = (wpY_top (fun r_1 => (vp_in r_1 48 ∧ ∀ a_panics_44, a_panics_44 = upd (ya_panics u) r_1.toNatClampNeg (vp_nar .boolean 1) → (wpY_top (fun r_45 => (vp_in r_45 48 ∧ ∀ a_panicWith_88, a_panicWith_88 = upd (ya_panicWith u) r_45.toNatClampNeg p1 → (wpY_leave (fun u90 => (post u90)) (ys_panicWith (ys_panics u a_panics_44) a_panicWith_88) p0))) (ys_panics u a_panics_44) p0))) u p0) := sorry
theorem uy_channelAt (post : Int32 → Prop) (u : SY) (p0 : Int32) : wpY_channelAt post u p0 = (((p0 < 1 → (post 0)) ∧ (¬ p0 < 1 → ((((ya_made u) < p0 → (post 0)) ∧ (¬ (ya_made u) < p0 → (post 1))))))) := sorry
theorem uy_waitLine_118 (post : Int32 → Prop) (x2 : Int32) (x4 : Int32) (z0 : Int32) (z1 : Int32) (u : SY) : cy_waitLine_118 post x2 x4 z0 z1 u = (wpY_value (fun r_58 => (((r_58 = x2 → (post x4)) ∧ (¬ r_58 = x2 → (post (-1)))))) u z1 z0) := sorry
theorem uy_waitLine_89 (post : Int32 → Prop) (x1 : Int32) (x2 : Int32) (x3 : Int32) (x4 : Int32) (z0 : Int32) (u : SY) : cy_waitLine_89 post x1 x2 x3 x4 z0 u = (((z0 = x3 → (((x3 = 0 → (vp_in x4 60 ∧ (cy_waitLine_118 post x2 x4 ((ya_opB u) x4.toNatClampNeg) x1 u))) ∧ (¬ x3 = 0 → (vp_in x4 60 ∧ (cy_waitLine_118 post x2 x4 ((ya_opA u) x4.toNatClampNeg) x1 u)))))) ∧ (¬ z0 = x3 → (post (-1))))) := sorry
theorem uy_waitLine_72 (post : Int32 → Prop) (x1 : Int32) (x2 : Int32) (x3 : Int32) (x4 : Int32) (u : SY) : cy_waitLine_72 post x1 x2 x3 x4 u = (vp_in x4 60 ∧ (((((ya_kind u) x4.toNatClampNeg) = 10 → (cy_waitLine_89 post x1 x2 x3 x4 1 u)) ∧ (¬ ((ya_kind u) x4.toNatClampNeg) = 10 → (cy_waitLine_89 post x1 x2 x3 x4 0 u))))) := sorry
theorem uy_waitLine_201 (post : Int32 → Prop) (J142 : Int32 → Prop) (x1 : Int32) (x2 : Int32) (x3 : Int32) (x4 : Int32) (x5 : Int32) (u : SY) : cy_waitLine_201 post J142 x1 x2 x3 x4 x5 u = (wpY_part (fun r_150 => (J142 r_150)) u x4 x5) := sorry
theorem uy_waitLine_191 (post : Int32 → Prop) (J142 : Int32 → Prop) (x1 : Int32) (x2 : Int32) (x3 : Int32) (x4 : Int32) (x5 : Int32) (z0 : Int32) (z1 : Int32) (u : SY) : cy_waitLine_191 post J142 x1 x2 x3 x4 x5 z0 z1 u = (wpY_value (fun r_194 => (((r_194 = x2 → (post x5)) ∧ (¬ r_194 = x2 → (cy_waitLine_201 post J142 x1 x2 x3 x4 x5 u))))) u z1 z0) := sorry
theorem uy_waitLine_165 (post : Int32 → Prop) (J142 : Int32 → Prop) (x1 : Int32) (x2 : Int32) (x3 : Int32) (x4 : Int32) (x5 : Int32) (z0 : Int32) (z1 : Int32) (u : SY) : cy_waitLine_165 post J142 x1 x2 x3 x4 x5 z0 z1 u = (((z1 = z0 → (((x3 = 0 → (vp_in x5 60 ∧ (cy_waitLine_191 post J142 x1 x2 x3 x4 x5 ((ya_opB u) x5.toNatClampNeg) x1 u))) ∧ (¬ x3 = 0 → (vp_in x5 60 ∧ (cy_waitLine_191 post J142 x1 x2 x3 x4 x5 ((ya_opA u) x5.toNatClampNeg) x1 u)))))) ∧ (¬ z1 = z0 → (cy_waitLine_201 post J142 x1 x2 x3 x4 x5 u)))) := sorry
theorem uy_waitLine_142 (post : Int32 → Prop) (x1 : Int32) (x2 : Int32) (x3 : Int32) (x4 : Int32) (u : SY) (n : Nat) (x5 : Int32) : cy_waitLine_142 post x1 x2 x3 x4 u (n + 1) x5 = (((x5 < 0 → (post (-1))) ∧ (¬ x5 < 0 → (vp_in x5 60 ∧ (((x3 = 0 → (cy_waitLine_165 post (cy_waitLine_142 post x1 x2 x3 x4 u n) x1 x2 x3 x4 x5 8 ((ya_kind u) x5.toNatClampNeg) u)) ∧ (¬ x3 = 0 → (cy_waitLine_165 post (cy_waitLine_142 post x1 x2 x3 x4 u n) x1 x2 x3 x4 x5 7 ((ya_kind u) x5.toNatClampNeg) u)))))))) := sorry
theorem uy_waitLine (post : Int32 → Prop) (u : SY) (p0 : Int32) (p1 : Int32) (p2 : Int32) : wpY_waitLine post u p0 p1 p2 = (vp_in p0 12 ∧ (((((ya_status u) p0.toNatClampNeg) = 2 → (vp_in p0 12 ∧ (((p1 ≤ ((ya_channels u) p0.toNatClampNeg) → (wpY_top (fun r_5 => (vp_in r_5 48 ∧ (∀ x4_48, x4_48 = (ya_pc u) r_5.toNatClampNeg → (vp_in x4_48 60 ∧ (((((ya_kind u) x4_48.toNatClampNeg) = 28 → (post (-1))) ∧ (¬ ((ya_kind u) x4_48.toNatClampNeg) = 28 → (vp_in x4_48 60 ∧ (((((ya_kind u) x4_48.toNatClampNeg) = 10 → (cy_waitLine_72 post p0 p1 p2 x4_48 u)) ∧ (¬ ((ya_kind u) x4_48.toNatClampNeg) = 10 → (vp_in x4_48 60 ∧ (((((ya_kind u) x4_48.toNatClampNeg) = 11 → (cy_waitLine_72 post p0 p1 p2 x4_48 u)) ∧ (¬ ((ya_kind u) x4_48.toNatClampNeg) = 11 → (wpY_part (fun r_104 => (∃ n142 : Nat, cy_waitLine_142 post p0 p1 p2 x4_48 u n142 r_104)) u x4_48 x4_48)))))))))))))))) u p0)) ∧ (¬ p1 ≤ ((ya_channels u) p0.toNatClampNeg) → (post (-1))))))) ∧ (¬ ((ya_status u) p0.toNatClampNeg) = 2 → (post (-1)))))) := sorry
theorem uy_longest_5 (post : Int32 → Prop) (x1 : Int32) (x2 : Int32) (u : SY) (n : Nat) (x3 : Int32) (x4 : Int32) : cy_longest_5 post x1 x2 u (n + 1) x3 x4 = (((12 ≤ x4 → (post x3)) ∧ (¬ 12 ≤ x4 → (wpY_waitLine (fun r_2 => (((r_2 < 0 → (∀ x4_45, x4_45 = x4 + 1 → (cy_longest_5 post x1 x2 u n x3 x4_45))) ∧ (¬ r_2 < 0 → (((x3 < 0 → (∀ x4_47, x4_47 = x4 + 1 → (cy_longest_5 post x1 x2 u n x4 x4_47))) ∧ (¬ x3 < 0 → (vp_in x4 12 ∧ (vp_in x3 12 ∧ (((((ya_since u) x3.toNatClampNeg) ≤ ((ya_since u) x4.toNatClampNeg) → (∀ x4_51, x4_51 = x4 + 1 → (cy_longest_5 post x1 x2 u n x3 x4_51))) ∧ (¬ ((ya_since u) x3.toNatClampNeg) ≤ ((ya_since u) x4.toNatClampNeg) → (∀ x4_52, x4_52 = x4 + 1 → (cy_longest_5 post x1 x2 u n x4 x4_52)))))))))))))) u x4 x1 x2)))) := sorry
theorem uy_longest (post : Int32 → Prop) (u : SY) (p0 : Int32) (p1 : Int32) : wpY_longest post u p0 p1 = (∃ n5 : Nat, cy_longest_5 post p0 p1 u n5 (-1) 0) := sorry
theorem uy_give (post : SY → Prop) (u : SY) (p0 : Int32) (p1 : Int32) (p2 : Int32) (p3 : Int32) : wpY_give post u p0 p1 p2 p3 = (vp_in p1 60 ∧ (wpY_set (fun u3 => (vp_in p1 60 ∧ (wpY_set (fun u46 => (post u46)) u3 p0 ((ya_opC u3) p1.toNatClampNeg) p3))) u p0 ((ya_opA u) p1.toNatClampNeg) p2)) := sorry
theorem uy_wake (post : SY → Prop) (u : SY) (p0 : Int32) (p1 : Int32) : wpY_wake post u p0 p1 = (vp_in p0 12 ∧ ∀ a_resume_2, a_resume_2 = upd (ya_resume u) p0.toNatClampNeg (vp_nar .byte ((p1 + 1).toInt8.toInt32)) → (wpY_ready (fun u4 => (post u4)) (ys_resume u a_resume_2) p0)) := sorry
theorem uy_pause (post : SY → Prop) (u : SY) (p0 : Int32) (p1 : Int64) : wpY_pause post u p0 p1 = (vp_in p0 12 ∧ ∀ a_status_2, a_status_2 = upd (ya_status u) p0.toNatClampNeg (vp_nar .byte 2) → (∀ f_turn_3, f_turn_3 = (ya_turn u) + 1 → (vp_in p0 12 ∧ ∀ a_since_5, a_since_5 = upd (ya_since u) p0.toNatClampNeg (ya_turn u) → (vp_in p0 12 ∧ ∀ a_until_7, a_until_7 = vp_updL (ya_until u) p0.toNatClampNeg p1 → (vp_in p0 12 ∧ ∀ a_channels_9, a_channels_9 = upd (ya_channels u) p0.toNatClampNeg (vp_nar .byte (ya_made u).toInt8.toInt32) → (post (ys_channels (ys_until (ys_since (ys_status (ys_off (ys_turn u f_turn_3) 1) a_status_2) a_since_5) a_until_7) a_channels_9))))))) := sorry
theorem uy_canSend (post : Int32 → Prop) (u : SY) (p0 : Int32) : wpY_canSend post u p0 = (wpY_channelAt (fun r_1 => (((r_1 = 0 → (post 0)) ∧ (¬ r_1 = 0 → (vp_in (p0 - 1) 8 ∧ (((((ya_closed u) (p0 - 1).toNatClampNeg) = 0 → (wpY_longest (fun r_46 => (((0 ≤ r_46 → (post 1)) ∧ (¬ 0 ≤ r_46 → (vp_in (p0 - 1) 8 ∧ (vp_in (p0 - 1) 8 ∧ (((((ya_capacity u) (p0 - 1).toNatClampNeg) ≤ ((ya_held u) (p0 - 1).toNatClampNeg) → (post 0)) ∧ (¬ ((ya_capacity u) (p0 - 1).toNatClampNeg) ≤ ((ya_held u) (p0 - 1).toNatClampNeg) → (post 1)))))))))) u p0 0)) ∧ (¬ ((ya_closed u) (p0 - 1).toNatClampNeg) = 0 → (post 1))))))))) u p0) := sorry
theorem uy_canReceive (post : Int32 → Prop) (u : SY) (p0 : Int32) : wpY_canReceive post u p0 = (wpY_channelAt (fun r_1 => (((r_1 = 0 → (post 0)) ∧ (¬ r_1 = 0 → (vp_in (p0 - 1) 8 ∧ (((((ya_closed u) (p0 - 1).toNatClampNeg) = 0 → (vp_in (p0 - 1) 8 ∧ (((0 < ((ya_held u) (p0 - 1).toNatClampNeg) → (post 1)) ∧ (¬ 0 < ((ya_held u) (p0 - 1).toNatClampNeg) → (wpY_longest (fun r_48 => (((r_48 < 0 → (post 0)) ∧ (¬ r_48 < 0 → (post 1))))) u p0 1)))))) ∧ (¬ ((ya_closed u) (p0 - 1).toNatClampNeg) = 0 → (post 1))))))))) u p0) := sorry
theorem uy_send (post : Int32 → SY → Prop) (u : SY) (p0 : Int32) (p1 : Int32) : wpY_send post u p0 p1 = (vp_in (p0 - 1) 8 ∧ (((((ya_closed u) (p0 - 1).toNatClampNeg) = 0 → (wpY_longest (fun r_3 => (((r_3 < 0 → (vp_in (p0 - 1) 8 ∧ (vp_in (p0 - 1) 8 ∧ ∀ a_held_48, a_held_48 = upd (ya_held u) (p0 - 1).toNatClampNeg (vp_nar .byte ((((ya_held u) (p0 - 1).toNatClampNeg) + 1).toInt8.toInt32)) → (vp_in (((3 * p0) - 3) + ((ya_held u) (p0 - 1).toNatClampNeg)) 24 ∧ ∀ a_values_50, a_values_50 = upd (ya_values u) (((3 * p0) - 3) + ((ya_held u) (p0 - 1).toNatClampNeg)).toNatClampNeg p1 → (post 1 (ys_values (ys_held u a_held_48) a_values_50)))))) ∧ (¬ r_3 < 0 → (wpY_waitLine (fun r_51 => (wpY_give (fun u94 => (wpY_wake (fun u136 => (post 1 u136)) u94 r_3 r_51)) u r_3 r_51 p1 1)) u r_3 p0 0))))) u p0 0)) ∧ (¬ ((ya_closed u) (p0 - 1).toNatClampNeg) = 0 → (post 0 u))))) := sorry
theorem uy_receive_198 (post : SY → Prop) (x4 : Int32) (x5 : Int32) (u : SY) : cy_receive_198 post x4 x5 u = (((x4 < 0 → (post u)) ∧ (¬ x4 < 0 → (wpY_wake (fun u91 => (post u91)) u x4 x5)))) := sorry
theorem uy_receive_155 (post : SY → Prop) (x4 : Int32) (x5 : Int32) (u : SY) : cy_receive_155 post x4 x5 u = (cy_receive_198 post x4 x5 u) := sorry
theorem uy_receive_25 (post : SY → Prop) (x1 : Int32) (x2 : Int32) (x3 : Int32) (x4 : Int32) (z0 : Int32) (u : SY) : cy_receive_25 post x1 x2 x3 x4 z0 u = (vp_in (x3 - 1) 8 ∧ (((((ya_held u) (x3 - 1).toNatClampNeg) ≤ 0 → (((x4 < 0 → (wpY_give (fun u48 => (cy_receive_198 post x4 z0 u48)) u x1 x2 0 0)) ∧ (¬ x4 < 0 → (vp_in z0 60 ∧ (wpY_value (fun r_133 => (wpY_give (fun u176 => (cy_receive_198 post x4 z0 u176)) u x1 x2 r_133 1)) u x4 ((ya_opB u) z0.toNatClampNeg))))))) ∧ (¬ ((ya_held u) (x3 - 1).toNatClampNeg) ≤ 0 → (vp_in ((3 * x3) - 3) 24 ∧ (∀ x6_218, x6_218 = (ya_values u) ((3 * x3) - 3).toNatClampNeg → (vp_in ((3 * x3) - 2) 24 ∧ (vp_in ((3 * x3) - 3) 24 ∧ ∀ a_values_221, a_values_221 = upd (ya_values u) ((3 * x3) - 3).toNatClampNeg ((ya_values u) ((3 * x3) - 2).toNatClampNeg) → (vp_in ((3 * x3) - 1) 24 ∧ (vp_in ((3 * x3) - 2) 24 ∧ ∀ a_values_224, a_values_224 = upd a_values_221 ((3 * x3) - 2).toNatClampNeg (a_values_221 ((3 * x3) - 1).toNatClampNeg) → (vp_in (x3 - 1) 8 ∧ (vp_in (x3 - 1) 8 ∧ ∀ a_held_227, a_held_227 = upd (ya_held u) (x3 - 1).toNatClampNeg (vp_nar .byte ((((ya_held u) (x3 - 1).toNatClampNeg) - 1).toInt8.toInt32)) → (wpY_give (fun u229 => (((x4 < 0 → (cy_receive_155 post x4 z0 u229)) ∧ (¬ x4 < 0 → (vp_in (x3 - 1) 8 ∧ (vp_in (x3 - 1) 8 ∧ ∀ a_held_273, a_held_273 = upd (ya_held u229) (x3 - 1).toNatClampNeg (vp_nar .byte ((((ya_held u229) (x3 - 1).toNatClampNeg) + 1).toInt8.toInt32)) → (vp_in z0 60 ∧ (wpY_value (fun r_275 => (vp_in (((3 * x3) - 3) + ((ya_held u229) (x3 - 1).toNatClampNeg)) 24 ∧ ∀ a_values_318, a_values_318 = upd (ya_values u229) (((3 * x3) - 3) + ((ya_held u229) (x3 - 1).toNatClampNeg)).toNatClampNeg r_275 → (cy_receive_155 post x4 z0 (ys_values (ys_held u229 a_held_273) a_values_318)))) (ys_held u229 a_held_273) x4 ((ya_opB u229) z0.toNatClampNeg))))))))) (ys_values (ys_held u a_held_227) a_values_224) x1 x2 x6_218 1))))))))))))) := sorry
theorem uy_receive (post : SY → Prop) (u : SY) (p0 : Int32) (p1 : Int32) (p2 : Int32) : wpY_receive post u p0 p1 p2 = (wpY_longest (fun r_1 => (((r_1 < 0 → (cy_receive_25 post p0 p1 p2 r_1 (-1) u)) ∧ (¬ r_1 < 0 → (wpY_waitLine (fun r_319 => (cy_receive_25 post p0 p1 p2 r_1 r_319 u)) u r_1 p2 1))))) u p2 1) := sorry
theorem uy_close_59 (post : SY → Prop) (x1 : Int32) (n : Nat) (x2 : Int32) (u : SY) : cy_close_59 post x1 (n + 1) x2 u = (((x2 < 0 → (post u)) ∧ (¬ x2 < 0 → (vp_in x2 12 ∧ ∀ a_shocked_90, a_shocked_90 = upd (ya_shocked u) x2.toNatClampNeg (vp_nar .boolean 1) → (wpY_ready (fun u92 => (wpY_longest (fun r_133 => (cy_close_59 post x1 n r_133 u92)) u92 x1 1)) (ys_shocked u a_shocked_90) x2))))) := sorry
theorem uy_close_16 (post : SY → Prop) (x1 : Int32) (n : Nat) (x2 : Int32) (u : SY) : cy_close_16 post x1 (n + 1) x2 u = (((x2 < 0 → (wpY_longest (fun r_46 => (∃ n59 : Nat, cy_close_59 post x1 n59 r_46 u)) u x1 1)) ∧ (¬ x2 < 0 → (wpY_waitLine (fun r_175 => (wpY_give (fun u218 => (wpY_wake (fun u260 => (wpY_longest (fun r_301 => (cy_close_16 post x1 n r_301 u260)) u260 x1 0)) u218 x2 r_175)) u x2 r_175 0 0)) u x2 x1 0)))) := sorry
theorem uy_close (post : SY → Prop) (u : SY) (p0 : Int32) : wpY_close post u p0 = (vp_in (p0 - 1) 8 ∧ ∀ a_closed_2, a_closed_2 = upd (ya_closed u) (p0 - 1).toNatClampNeg (vp_nar .boolean 1) → (wpY_longest (fun r_3 => (∃ n16 : Nat, cy_close_16 post p0 n16 r_3 (ys_closed u a_closed_2))) (ys_closed u a_closed_2) p0 0)) := sorry
theorem uy_select_271 (post : SY → Prop) (z0 : Int64) (z1 : Int32) (u : SY) : cy_select_271 post z0 z1 u = (wpY_pause (fun u48 => (post u48)) u z1 z0) := sorry
theorem uy_select_251 (post : SY → Prop) (x1 : Int32) (x3 : Int32) (x4 : Int32) (u : SY) : cy_select_251 post x1 x3 x4 u = (((0 ≤ x3 → (cy_select_271 post ((ya_clock u) + x4.toInt64) x1 u)) ∧ (¬ 0 ≤ x3 → (cy_select_271 post (-1) x1 u)))) := sorry
theorem uy_select_229 (post : SY → Prop) (x1 : Int32) (x3 : Int32) (z0 : Int32) (u : SY) : cy_select_229 post x1 x3 z0 u = (((x3 < 0 → (cy_select_251 post x1 x3 z0 u)) ∧ (¬ x3 < 0 → (((0 < z0 → (cy_select_251 post x1 x3 z0 u)) ∧ (¬ 0 < z0 → (wpY_goOn (fun u91 => (post u91)) u x1 (x3 + 1)))))))) := sorry
theorem uy_select_214 (post : SY → Prop) (x1 : Int32) (x3 : Int32) (u : SY) : cy_select_214 post x1 x3 u = (cy_select_229 post x1 x3 0 u) := sorry
theorem uy_select_187 (post : SY → Prop) (J10 : Int32 → Int32 → Prop) (x1 : Int32) (x2 : Int32) (x3 : Int32) (x4 : Int32) (u : SY) : cy_select_187 post J10 x1 x2 x3 x4 u = (wpY_part (fun r_230 => (J10 x3 r_230)) u x2 x4) := sorry
theorem uy_select_147 (post : SY → Prop) (J10 : Int32 → Int32 → Prop) (x1 : Int32) (x2 : Int32) (x3 : Int32) (x4 : Int32) (x5 : Int32) (u : SY) : cy_select_147 post J10 x1 x2 x3 x4 x5 u = (vp_in x4 60 ∧ (((((ya_kind u) x4.toNatClampNeg) = 8 → (wpY_canReceive (fun r_272 => (((r_272 = 0 → (cy_select_187 post J10 x1 x2 x3 x4 u)) ∧ (¬ r_272 = 0 → (wpY_receive (fun u316 => (wpY_goOn (fun u358 => (post u358)) u316 x1 (x4 + 1))) u x1 x4 x5))))) u x5)) ∧ (¬ ((ya_kind u) x4.toNatClampNeg) = 8 → (cy_select_187 post J10 x1 x2 x3 x4 u))))) := sorry
theorem uy_select_82 (post : SY → Prop) (J10 : Int32 → Int32 → Prop) (x1 : Int32) (x2 : Int32) (x3 : Int32) (x4 : Int32) (x5 : Int32) (u : SY) : cy_select_82 post J10 x1 x2 x3 x4 x5 u = (vp_in x4 60 ∧ (((((ya_kind u) x4.toNatClampNeg) = 7 → (wpY_canSend (fun r_399 => (((r_399 = 0 → (cy_select_147 post J10 x1 x2 x3 x4 x5 u)) ∧ (¬ r_399 = 0 → (vp_in x4 60 ∧ (wpY_value (fun r_443 => (wpY_send (fun r_485 u486 => (((r_485 = 0 → (wpY_panic (fun u529 => (post u529)) u486 x1 (-1))) ∧ (¬ r_485 = 0 → (wpY_goOn (fun u571 => (post u571)) u486 x1 (x4 + 1)))))) u x5 r_443)) u x1 ((ya_opB u) x4.toNatClampNeg))))))) u x5)) ∧ (¬ ((ya_kind u) x4.toNatClampNeg) = 7 → (cy_select_147 post J10 x1 x2 x3 x4 x5 u))))) := sorry
theorem uy_select_65 (post : SY → Prop) (J10 : Int32 → Int32 → Prop) (x1 : Int32) (x2 : Int32) (x3 : Int32) (x4 : Int32) (z0 : Int32) (u : SY) : cy_select_65 post J10 x1 x2 x3 x4 z0 u = (vp_in x4 60 ∧ (((((ya_kind u) x4.toNatClampNeg) < 9 → (cy_select_82 post J10 x1 x2 x3 x4 z0 u)) ∧ (¬ ((ya_kind u) x4.toNatClampNeg) < 9 → (cy_select_82 post J10 x1 x2 x4 x4 z0 u))))) := sorry
theorem uy_select_62 (post : SY → Prop) (J10 : Int32 → Int32 → Prop) (x1 : Int32) (x2 : Int32) (x3 : Int32) (x4 : Int32) (z0 : Int32) (z1 : Int32) (u : SY) : cy_select_62 post J10 x1 x2 x3 x4 z0 z1 u = (wpY_value (fun r_182 => (cy_select_65 post J10 x1 x2 x3 x4 r_182 u)) u z1 z0) := sorry
theorem uy_select_10 (post : SY → Prop) (x1 : Int32) (x2 : Int32) (u : SY) (n : Nat) (x3 : Int32) (x4 : Int32) : cy_select_10 post x1 x2 u (n + 1) x3 x4 = (((x4 < 0 → (((x3 < 0 → (cy_select_214 post x1 x3 u)) ∧ (¬ x3 < 0 → (vp_in x3 60 ∧ (((((ya_kind u) x3.toNatClampNeg) = 9 → (cy_select_214 post x1 x3 u)) ∧ (¬ ((ya_kind u) x3.toNatClampNeg) = 9 → (vp_in x3 60 ∧ (wpY_value (fun r_135 => (cy_select_229 post x1 x3 r_135 u)) u x1 ((ya_opA u) x3.toNatClampNeg))))))))))) ∧ (¬ x4 < 0 → (vp_in x4 60 ∧ (((((ya_kind u) x4.toNatClampNeg) < 9 → (vp_in x4 60 ∧ (((((ya_kind u) x4.toNatClampNeg) = 7 → (vp_in x4 60 ∧ (cy_select_62 post (cy_select_10 post x1 x2 u n) x1 x2 x3 x4 ((ya_opA u) x4.toNatClampNeg) x1 u))) ∧ (¬ ((ya_kind u) x4.toNatClampNeg) = 7 → (vp_in x4 60 ∧ (cy_select_62 post (cy_select_10 post x1 x2 u n) x1 x2 x3 x4 ((ya_opB u) x4.toNatClampNeg) x1 u))))))) ∧ (¬ ((ya_kind u) x4.toNatClampNeg) < 9 → (cy_select_65 post (cy_select_10 post x1 x2 u n) x1 x2 x3 x4 0 u)))))))) := sorry
theorem uy_select (post : SY → Prop) (u : SY) (p0 : Int32) (p1 : Int32) : wpY_select post u p0 p1 = (wpY_part (fun r_1 => (∃ n10 : Nat, cy_select_10 post p0 p1 u n10 (-1) r_1)) u p1 p1) := sorry
theorem uy_plain_221 (post : Int32 → SY → Prop) (x6 : Int32) (x7 : Int32) (z0 : Int32) (z1 : Int32) (z2 : Int32) (u : SY) : cy_plain_221 post x6 x7 z0 z1 z2 u = (wpY_set (fun u112 => (((x7 = 0 → (post 1 u112)) ∧ (¬ x7 = 0 → (vp_in (x6 - 1) 48 ∧ ∀ a_panics_155, a_panics_155 = upd (ya_panics u112) (x6 - 1).toNatClampNeg (vp_nar .boolean 0) → (post 1 (ys_panics u112 a_panics_155))))))) u z2 z1 z0) := sorry
theorem uy_plain_193 (post : Int32 → SY → Prop) (x1 : Int32) (x2 : Int32) (x6 : Int32) (z0 : Int32) (u : SY) : cy_plain_193 post x1 x2 x6 z0 u = (vp_in x2 60 ∧ (((z0 = 0 → (cy_plain_221 post x6 z0 0 ((ya_opA u) x2.toNatClampNeg) x1 u)) ∧ (¬ z0 = 0 → (vp_in (x6 - 1) 48 ∧ (cy_plain_221 post x6 z0 ((ya_panicWith u) (x6 - 1).toNatClampNeg) ((ya_opA u) x2.toNatClampNeg) x1 u)))))) := sorry
theorem uy_plain_192 (post : Int32 → SY → Prop) (x1 : Int32) (x2 : Int32) (x6 : Int32) (u : SY) : cy_plain_192 post x1 x2 x6 u = (cy_plain_193 post x1 x2 x6 0 u) := sorry
theorem uy_plain_384 (post : Int32 → SY → Prop) (z0 : Int32) (z1 : Int32) (z2 : Int32) (u : SY) : cy_plain_384 post z0 z1 z2 u = (wpY_set (fun u431 => (post 1 u431)) u z2 z1 z0) := sorry
theorem uy_plain_409 (post : Int32 → SY → Prop) (z0 : Int32) (z1 : Int32) (z2 : Int32) (u : SY) : cy_plain_409 post z0 z1 z2 u = (wpY_set (fun u476 => (post 1 u476)) u z2 z1 z0) := sorry
theorem uy_plain (post : Int32 → SY → Prop) (u : SY) (p0 : Int32) (p1 : Int32) (p2 : Int32) (p3 : Int32) (p4 : Int32) : wpY_plain post u p0 p1 p2 p3 p4 = (wpY_top (fun r_1 => (vp_in p1 60 ∧ (∀ k_44, k_44 = (ya_kind u) p1.toNatClampNeg → (((k_44 < 16 → (post 1 u)) ∧ (¬ k_44 < 16 → (((27 < k_44 → (post 1 u)) ∧ (¬ 27 < k_44 → (((k_44 = 16 → (vp_in r_1 48 ∧ (((((ya_noted u) r_1.toNatClampNeg) = 3 → (wpY_panic (fun u63 => (post 0 u63)) u p0 (-5))) ∧ (¬ ((ya_noted u) r_1.toNatClampNeg) = 3 → (vp_in r_1 48 ∧ (vp_in p1 60 ∧ (vp_in ((3 * r_1) + ((ya_noted u) r_1.toNatClampNeg)) 144 ∧ ∀ a_noteOf_53, a_noteOf_53 = upd (ya_noteOf u) ((3 * r_1) + ((ya_noted u) r_1.toNatClampNeg)).toNatClampNeg (vp_nar .byte (((ya_opA u) p1.toNatClampNeg).toInt8.toInt32)) → (vp_in r_1 48 ∧ (vp_in ((3 * r_1) + ((ya_noted u) r_1.toNatClampNeg)) 144 ∧ ∀ a_noteB_56, a_noteB_56 = upd (ya_noteB u) ((3 * r_1) + ((ya_noted u) r_1.toNatClampNeg)).toNatClampNeg p3 → (vp_in r_1 48 ∧ (vp_in r_1 48 ∧ ∀ a_noted_59, a_noted_59 = upd (ya_noted u) r_1.toNatClampNeg (vp_nar .byte ((((ya_noted u) r_1.toNatClampNeg) + 1).toInt8.toInt32)) → (vp_in ((3 * r_1) + ((ya_noted u) r_1.toNatClampNeg)) 144 ∧ ∀ a_noteC_61, a_noteC_61 = upd (ya_noteC u) ((3 * r_1) + ((ya_noted u) r_1.toNatClampNeg)).toNatClampNeg p4 → (post 1 (ys_noteC (ys_noteB (ys_noteOf (ys_noted u a_noted_59) a_noteOf_53) a_noteB_56) a_noteC_61))))))))))))))) ∧ (¬ k_44 = 16 → (((k_44 = 17 → (post 1 u)) ∧ (¬ k_44 = 17 → (((k_44 = 18 → (post 1 u)) ∧ (¬ k_44 = 18 → (((k_44 = 19 → (vp_in r_1 48 ∧ (((((ya_asNote u) r_1.toNatClampNeg) = 0 → (cy_plain_192 post p0 p1 r_1 u)) ∧ (¬ ((ya_asNote u) r_1.toNatClampNeg) = 0 → (vp_in (r_1 - 1) 48 ∧ (((((ya_panics u) (r_1 - 1).toNatClampNeg) = 0 → (cy_plain_192 post p0 p1 r_1 u)) ∧ (¬ ((ya_panics u) (r_1 - 1).toNatClampNeg) = 0 → (cy_plain_193 post p0 p1 r_1 1 u)))))))))) ∧ (¬ k_44 = 19 → (((k_44 = 20 → (∀ f_printed_160, f_printed_160 = (ya_printed u) + 1 → (vp_in ((ya_printed u) &&& 31) 32 ∧ ∀ a_out_162, a_out_162 = upd (ya_out u) ((ya_printed u) &&& 31).toNatClampNeg p2 → (post 1 (ys_out (ys_printed u f_printed_160) a_out_162))))) ∧ (¬ k_44 = 20 → (((k_44 = 21 → (vp_in p1 60 ∧ (wpY_set (fun u166 => (post 1 u166)) u p0 ((ya_opA u) p1.toNatClampNeg) p3))) ∧ (¬ k_44 = 21 → (((k_44 = 22 → (vp_in p1 60 ∧ (wpY_set (fun u210 => (post 1 u210)) u p0 ((ya_opA u) p1.toNatClampNeg) (p3 + p4)))) ∧ (¬ k_44 = 22 → (((k_44 = 23 → (vp_in p1 60 ∧ (wpY_set (fun u254 => (post 1 u254)) u p0 ((ya_opA u) p1.toNatClampNeg) (p3 - p4)))) ∧ (¬ k_44 = 23 → (((k_44 = 24 → (vp_in p1 60 ∧ (wpY_set (fun u298 => (post 1 u298)) u p0 ((ya_opA u) p1.toNatClampNeg) (p3 * p4)))) ∧ (¬ k_44 = 24 → (((k_44 = 25 → (((p4 = 0 → (wpY_panic (fun u386 => (post 0 u386)) u p0 (-3))) ∧ (¬ p4 = 0 → (vp_in p1 60 ∧ (¬ p4 = 0 ∧ (wpY_set (fun u344 => (post 1 u344)) u p0 ((ya_opA u) p1.toNatClampNeg) (p3 / p4)))))))) ∧ (¬ k_44 = 25 → (((k_44 = 26 → (vp_in p1 60 ∧ (((p4 ≤ p3 → (cy_plain_384 post 0 ((ya_opA u) p1.toNatClampNeg) p0 u)) ∧ (¬ p4 ≤ p3 → (cy_plain_384 post 1 ((ya_opA u) p1.toNatClampNeg) p0 u)))))) ∧ (¬ k_44 = 26 → (((k_44 = 27 → (vp_in p1 60 ∧ (((p3 = p4 → (cy_plain_409 post 1 ((ya_opA u) p1.toNatClampNeg) p0 u)) ∧ (¬ p3 = p4 → (cy_plain_409 post 0 ((ya_opA u) p1.toNatClampNeg) p0 u)))))) ∧ (¬ k_44 = 27 → (True)))))))))))))))))))))))))))))))))))))))))))))) u p0) := sorry
theorem uy_execute_593 (post : SY → Prop) (x1 : Int32) (x2 : Int32) (u : SY) : cy_execute_593 post x1 x2 u = (wpY_goOn (fun u178 => (post u178)) u x1 (x2 + 1)) := sorry
theorem uy_execute_578 (post : SY → Prop) (x1 : Int32) (x2 : Int32) (x3 : Int32) (x4 : Int32) (x5 : Int32) (u : SY) : cy_execute_578 post x1 x2 x3 x4 x5 u = (wpY_plain (fun r_134 u135 => (((r_134 = 0 → (post u135)) ∧ (¬ r_134 = 0 → (cy_execute_593 post x1 x2 u135))))) u x1 x2 x3 x4 x5) := sorry
theorem uy_execute_205 (post : SY → Prop) (x1 : Int32) (z0 : Int32) (u : SY) : cy_execute_205 post x1 z0 u = (wpY_goOn (fun u265 => (post u265)) u x1 z0) := sorry
theorem uy_execute_232 (post : SY → Prop) (x1 : Int32) (z0 : Int32) (u : SY) : cy_execute_232 post x1 z0 u = (wpY_goOn (fun u394 => (post u394)) u x1 z0) := sorry
theorem uy_execute_249 (post : SY → Prop) (x1 : Int32) (u : SY) (n : Nat) (x9 : Int32) : cy_execute_249 post x1 u (n + 1) x9 = (vp_in x9 60 ∧ (((((ya_kind u) x9.toNatClampNeg) = 4 → (wpY_endOf (fun r_480 => (∀ x10_522, x10_522 = r_480 + 1 → (wpY_goOn (fun u524 => (post u524)) u x1 x10_522))) u x9)) ∧ (¬ ((ya_kind u) x9.toNatClampNeg) = 4 → (wpY_opener (fun r_565 => (cy_execute_249 post x1 u n r_565)) u x9))))) := sorry
theorem uy_execute_391 (post : SY → Prop) (x1 : Int32) (u : SY) : cy_execute_391 post x1 u = (wpY_panic (fun u1039 => (post u1039)) u x1 (-1)) := sorry
theorem uy_execute (post : SY → Prop) (u : SY) (p0 : Int32) (p1 : Int32) : wpY_execute post u p0 p1 = (vp_in p1 60 ∧ (wpY_value (fun r_2 => (vp_in p1 60 ∧ (wpY_value (fun r_45 => (vp_in p1 60 ∧ (wpY_value (fun r_88 => (vp_in p1 60 ∧ (∀ k_131, k_131 = (ya_kind u) p1.toNatClampNeg → (((k_131 < 2 → (cy_execute_578 post p0 p1 r_2 r_45 r_88 u)) ∧ (¬ k_131 < 2 → (((28 < k_131 → (cy_execute_578 post p0 p1 r_2 r_45 r_88 u)) ∧ (¬ 28 < k_131 → (((k_131 = 2 → (wpY_part (fun r_220 => (((r_2 = 0 → (((0 ≤ r_220 → (cy_execute_205 post p0 (r_220 + 1) u)) ∧ (¬ 0 ≤ r_220 → (wpY_endOf (fun r_306 => (cy_execute_205 post p0 (r_306 + 1) u)) u p1))))) ∧ (¬ r_2 = 0 → (cy_execute_205 post p0 (p1 + 1) u))))) u p1 p1)) ∧ (¬ k_131 = 2 → (((k_131 = 3 → (cy_execute_578 post p0 p1 r_2 r_45 r_88 u)) ∧ (¬ k_131 = 3 → (((k_131 = 4 → (((r_2 = 0 → (wpY_endOf (fun r_351 => (cy_execute_232 post p0 (r_351 + 1) u)) u p1)) ∧ (¬ r_2 = 0 → (cy_execute_232 post p0 (p1 + 1) u))))) ∧ (¬ k_131 = 4 → (((k_131 = 5 → (wpY_opener (fun r_436 => (∃ n249 : Nat, cy_execute_249 post p0 u n249 r_436)) u p1)) ∧ (¬ k_131 = 5 → (((k_131 = 6 → (wpY_select (fun u609 => (post u609)) u p0 p1)) ∧ (¬ k_131 = 6 → (((k_131 = 7 → (cy_execute_578 post p0 p1 r_2 r_45 r_88 u)) ∧ (¬ k_131 = 7 → (((k_131 = 8 → (cy_execute_578 post p0 p1 r_2 r_45 r_88 u)) ∧ (¬ k_131 = 8 → (((k_131 = 9 → (cy_execute_578 post p0 p1 r_2 r_45 r_88 u)) ∧ (¬ k_131 = 9 → (((k_131 = 10 → (wpY_canSend (fun r_654 => (((r_654 = 0 → (wpY_pause (fun u825 => (post u825)) u p0 (-1))) ∧ (¬ r_654 = 0 → (wpY_send (fun r_697 u698 => (((r_697 = 0 → (wpY_panic (fun u741 => (post u741)) u698 p0 (-1))) ∧ (¬ r_697 = 0 → (wpY_goOn (fun u783 => (post u783)) u698 p0 (p1 + 1)))))) u r_2 r_45))))) u r_2)) ∧ (¬ k_131 = 10 → (((k_131 = 11 → (wpY_canReceive (fun r_867 => (((r_867 = 0 → (wpY_pause (fun u953 => (post u953)) u p0 (-1))) ∧ (¬ r_867 = 0 → (wpY_receive (fun u911 => (cy_execute_593 post p0 p1 u911)) u p0 p1 r_45))))) u r_45)) ∧ (¬ k_131 = 11 → (((k_131 = 12 → (wpY_channelAt (fun r_995 => (((r_995 = 0 → (cy_execute_391 post p0 u)) ∧ (¬ r_995 = 0 → (vp_in (r_2 - 1) 8 ∧ (((((ya_closed u) (r_2 - 1).toNatClampNeg) = 0 → (wpY_close (fun u1083 => (cy_execute_593 post p0 p1 u1083)) u r_2)) ∧ (¬ ((ya_closed u) (r_2 - 1).toNatClampNeg) = 0 → (cy_execute_391 post p0 u))))))))) u r_2)) ∧ (¬ k_131 = 12 → (((k_131 = 13 → ((((ya_made u) = 8 → (wpY_panic (fun u1178 => (post u1178)) u p0 (-4))) ∧ (¬ (ya_made u) = 8 → (vp_in p1 60 ∧ (vp_in (ya_made u) 8 ∧ ∀ a_capacity_1128, a_capacity_1128 = upd (ya_capacity u) (ya_made u).toNatClampNeg (vp_nar .byte (((ya_opB u) p1.toNatClampNeg).toInt8.toInt32)) → (vp_in (ya_made u) 8 ∧ ∀ a_held_1130, a_held_1130 = upd (ya_held u) (ya_made u).toNatClampNeg (vp_nar .byte 0) → (∀ f_made_1131, f_made_1131 = (ya_made u) + 1 → (vp_in (ya_made u) 8 ∧ ∀ a_closed_1133, a_closed_1133 = upd (ya_closed u) (ya_made u).toNatClampNeg (vp_nar .boolean 0) → (vp_in p1 60 ∧ (wpY_set (fun u1136 => (cy_execute_593 post p0 p1 u1136)) (ys_closed (ys_held (ys_capacity (ys_made u f_made_1131) a_capacity_1128) a_held_1130) a_closed_1133) p0 ((ya_opA u) p1.toNatClampNeg) f_made_1131))))))))))) ∧ (¬ k_131 = 13 → (((k_131 = 14 → ((((ya_started u) = 12 → (wpY_panic (fun u1265 => (post u1265)) u p0 (-2))) ∧ (¬ (ya_started u) = 12 → (vp_in p1 60 ∧ (wpY_start (fun u1223 => (cy_execute_593 post p0 p1 u1223)) u ((ya_opA u) p1.toNatClampNeg) r_45 r_88)))))) ∧ (¬ k_131 = 14 → (((k_131 = 15 → (vp_in p1 60 ∧ (wpY_enter (fun u1309 => (post u1309)) u p0 ((ya_opA u) p1.toNatClampNeg) r_45 r_88))) ∧ (¬ k_131 = 15 → (((k_131 = 16 → (cy_execute_578 post p0 p1 r_2 r_45 r_88 u)) ∧ (¬ k_131 = 16 → (((k_131 = 17 → (wpY_leave (fun u1353 => (post u1353)) u p0)) ∧ (¬ k_131 = 17 → (((k_131 = 18 → (wpY_panic (fun u1396 => (post u1396)) u p0 r_2)) ∧ (¬ k_131 = 18 → (((k_131 = 19 → (cy_execute_578 post p0 p1 r_2 r_45 r_88 u)) ∧ (¬ k_131 = 19 → (((k_131 = 20 → (cy_execute_578 post p0 p1 r_2 r_45 r_88 u)) ∧ (¬ k_131 = 20 → (((k_131 = 21 → (cy_execute_578 post p0 p1 r_2 r_45 r_88 u)) ∧ (¬ k_131 = 21 → (((k_131 = 22 → (cy_execute_578 post p0 p1 r_2 r_45 r_88 u)) ∧ (¬ k_131 = 22 → (((k_131 = 23 → (cy_execute_578 post p0 p1 r_2 r_45 r_88 u)) ∧ (¬ k_131 = 23 → (((k_131 = 24 → (cy_execute_578 post p0 p1 r_2 r_45 r_88 u)) ∧ (¬ k_131 = 24 → (((k_131 = 25 → (cy_execute_578 post p0 p1 r_2 r_45 r_88 u)) ∧ (¬ k_131 = 25 → (((k_131 = 26 → (cy_execute_578 post p0 p1 r_2 r_45 r_88 u)) ∧ (¬ k_131 = 26 → (((k_131 = 27 → (cy_execute_578 post p0 p1 r_2 r_45 r_88 u)) ∧ (¬ k_131 = 27 → (((k_131 = 28 → (((r_2 ≤ 0 → (wpY_wake (fun u1449 => (post (ys_off u1449 1))) u p0 p1)) ∧ (¬ r_2 ≤ 0 → (wpY_pause (fun u1491 => (post u1491)) u p0 ((ya_clock u) + r_2.toInt64)))))) ∧ (¬ k_131 = 28 → (True))))))))))))))))))))))))))))))))))))))))))))))))))))))))))))))))))))))))))))))))))))))))))) u p0 ((ya_opC u) p1.toNatClampNeg)))) u p0 ((ya_opB u) p1.toNatClampNeg)))) u p0 ((ya_opA u) p1.toNatClampNeg))) := sorry
theorem uy_late_52 (post : SY → Prop) (x1 : Int32) (x2 : Int32) (u : SY) : cy_late_52 post x1 x2 u = (wpY_wake (fun u48 => (post u48)) u x1 x2) := sorry
theorem uy_late_31 (post : SY → Prop) (x1 : Int32) (x3 : Int32) (u : SY) (n : Nat) (x2 : Int32) : cy_late_31 post x1 x3 u (n + 1) x2 = (vp_in x2 60 ∧ (((((ya_kind u) x2.toNatClampNeg) = 29 → (cy_late_52 post x1 x2 u)) ∧ (¬ ((ya_kind u) x2.toNatClampNeg) = 29 → (wpY_part (fun r_133 => (cy_late_31 post x1 x3 u n r_133)) u x3 x2))))) := sorry
theorem uy_late (post : SY → Prop) (u : SY) (p0 : Int32) : wpY_late post u p0 = (wpY_top (fun r_1 => (vp_in r_1 48 ∧ (∀ x2_44, x2_44 = (ya_pc u) r_1.toNatClampNeg → (vp_in x2_44 60 ∧ (((((ya_kind u) x2_44.toNatClampNeg) = 6 → (wpY_part (fun r_89 => (∃ n31 : Nat, cy_late_31 post p0 x2_44 u n31 r_89)) u x2_44 x2_44)) ∧ (¬ ((ya_kind u) x2_44.toNatClampNeg) = 6 → (cy_late_52 post p0 x2_44 u)))))))) u p0) := sorry
theorem uy_passTime_89 (post : SY → Prop) (J77 : Int32 → SY → Prop) (x1 : Int64) (x3 : Int32) (u : SY) (n : Nat) (x4 : Int32) (x5 : Int32) : cy_passTime_89 post J77 x1 x3 u (n + 1) x4 x5 = (((12 ≤ x5 → (((x4 < 0 → (∀ x3_6, x3_6 = x3 + 1 → (J77 x3_6 u))) ∧ (¬ x4 < 0 → (wpY_late (fun u8 => (∀ x3_49, x3_49 = x3 + 1 → (J77 x3_49 u8))) u x4))))) ∧ (¬ 12 ≤ x5 → (vp_in x5 12 ∧ (((((ya_status u) x5.toNatClampNeg) = 2 → (vp_in x5 12 ∧ (((((ya_until u) x5.toNatClampNeg) = x1 → (((x4 < 0 → (∀ x5_57, x5_57 = x5 + 1 → (cy_passTime_89 post J77 x1 x3 u n x5 x5_57))) ∧ (¬ x4 < 0 → (vp_in x5 12 ∧ (vp_in x4 12 ∧ (((((ya_since u) x4.toNatClampNeg) ≤ ((ya_since u) x5.toNatClampNeg) → (∀ x5_61, x5_61 = x5 + 1 → (cy_passTime_89 post J77 x1 x3 u n x4 x5_61))) ∧ (¬ ((ya_since u) x4.toNatClampNeg) ≤ ((ya_since u) x5.toNatClampNeg) → (∀ x5_62, x5_62 = x5 + 1 → (cy_passTime_89 post J77 x1 x3 u n x5 x5_62))))))))))) ∧ (¬ ((ya_until u) x5.toNatClampNeg) = x1 → (∀ x5_55, x5_55 = x5 + 1 → (cy_passTime_89 post J77 x1 x3 u n x4 x5_55))))))) ∧ (¬ ((ya_status u) x5.toNatClampNeg) = 2 → (∀ x5_52, x5_52 = x5 + 1 → (cy_passTime_89 post J77 x1 x3 u n x4 x5_52))))))))) := sorry
theorem uy_passTime_77 (post : SY → Prop) (x1 : Int64) (n : Nat) (x3 : Int32) (u : SY) : cy_passTime_77 post x1 (n + 1) x3 u = (((12 ≤ x3 → (post u)) ∧ (¬ 12 ≤ x3 → (∃ n89 : Nat, cy_passTime_89 post (cy_passTime_77 post x1 n) x1 x3 u n89 (-1) 0)))) := sorry
theorem uy_passTime_6 (post : SY → Prop) (u : SY) (n : Nat) (x1 : Int64) (x3 : Int32) : cy_passTime_6 post u (n + 1) x1 x3 = (((12 ≤ x3 → (((0 ≤ x1 → (∃ n77 : Nat, cy_passTime_77 post x1 n77 0 (ys_clock u x1))) ∧ (¬ 0 ≤ x1 → (post u))))) ∧ (¬ 12 ≤ x3 → (vp_in x3 12 ∧ (((((ya_status u) x3.toNatClampNeg) = 2 → (vp_in x3 12 ∧ (((((ya_until u) x3.toNatClampNeg) < 0 → (∀ x3_68, x3_68 = x3 + 1 → (cy_passTime_6 post u n x1 x3_68))) ∧ (¬ ((ya_until u) x3.toNatClampNeg) < 0 → (((x1 < 0 → (vp_in x3 12 ∧ (∀ x1_71, x1_71 = (ya_until u) x3.toNatClampNeg → (∀ x3_72, x3_72 = x3 + 1 → (cy_passTime_6 post u n x1_71 x3_72))))) ∧ (¬ x1 < 0 → (vp_in x3 12 ∧ (((x1 ≤ ((ya_until u) x3.toNatClampNeg) → (∀ x3_75, x3_75 = x3 + 1 → (cy_passTime_6 post u n x1 x3_75))) ∧ (¬ x1 ≤ ((ya_until u) x3.toNatClampNeg) → (vp_in x3 12 ∧ (∀ x1_77, x1_77 = (ya_until u) x3.toNatClampNeg → (∀ x3_78, x3_78 = x3 + 1 → (cy_passTime_6 post u n x1_77 x3_78)))))))))))))))) ∧ (¬ ((ya_status u) x3.toNatClampNeg) = 2 → (∀ x3_65, x3_65 = x3 + 1 → (cy_passTime_6 post u n x1 x3_65))))))))) := sorry
theorem uy_passTime (post : SY → Prop) (u : SY) : wpY_passTime post u = (∃ n6 : Nat, cy_passTime_6 post u n6 (-1) 0) := sorry
theorem uy_next_51 (post : SY → Prop) (n : Nat) (x1 : Int32) (u : SY) : cy_next_51 post (n + 1) x1 u = ((((ya_queued u) ≤ x1 → (vp_in (ya_now u) 12 ∧ (∀ x1_7, x1_7 = (ya_resume u) (ya_now u).toNatClampNeg → (vp_in (ya_now u) 12 ∧ ∀ a_resume_9, a_resume_9 = upd (ya_resume u) (ya_now u).toNatClampNeg (vp_nar .byte (-1)) → (vp_in (ya_now u) 12 ∧ (((((ya_shocked u) (ya_now u).toNatClampNeg) = 0 → (((x1_7 < 0 → (post (ys_resume u a_resume_9))) ∧ (¬ x1_7 < 0 → (wpY_goOn (fun u14 => (post u14)) (ys_resume u a_resume_9) (ya_now u) x1_7))))) ∧ (¬ ((ya_shocked u) (ya_now u).toNatClampNeg) = 0 → (vp_in (ya_now u) 12 ∧ ∀ a_shocked_56, a_shocked_56 = upd (ya_shocked u) (ya_now u).toNatClampNeg (vp_nar .boolean 0) → (wpY_panic (fun u58 => (post u58)) (ys_shocked (ys_resume u a_resume_9) a_shocked_56) (ya_now u) (-1))))))))))) ∧ (¬ (ya_queued u) ≤ x1 → (vp_in (x1 + 1) 12 ∧ (vp_in x1 12 ∧ ∀ a_queue_101, a_queue_101 = upd (ya_queue u) x1.toNatClampNeg (vp_nar .byte ((ya_queue u) (x1 + 1).toNatClampNeg)) → (∀ x1_102, x1_102 = x1 + 1 → (cy_next_51 post n x1_102 (ys_queue u a_queue_101)))))))) := sorry
theorem uy_next_11 (post : SY → Prop) (u : SY) : cy_next_11 post u = ((((ya_queued u) = 0 → (post (ys_state u 4))) ∧ (¬ (ya_queued u) = 0 → (∀ f_now_3, f_now_3 = (ya_queue u) 0 → (∀ f_queued_4, f_queued_4 = (ya_queued u) - 1 → (∃ n51 : Nat, cy_next_51 post n51 0 (ys_off (ys_now (ys_queued u f_queued_4) f_now_3) 0))))))) := sorry
theorem uy_next (post : SY → Prop) (u : SY) : wpY_next post u = ((((ya_queued u) = 0 → (wpY_passTime (fun u104 => (cy_next_11 post u104)) u)) ∧ (¬ (ya_queued u) = 0 → (cy_next_11 post u)))) := sorry
theorem uy_run_58 (post : Int32 → SY → Prop) (J19 : Int32 → SY → Prop) (x1 : Int32) (x2 : Int32) (n : Nat) (x4 : Int32) (u : SY) : cy_run_58 post J19 x1 x2 (n + 1) x4 u = (((30 ≤ x4 → (∀ x2_92, x2_92 = x2 + 1 → (J19 x2_92 u))) ∧ (¬ 30 ≤ x4 → ((((ya_state u) = 1 → ((((ya_off u) = 0 → (∀ x2_96, x2_96 = x2 + 1 → (J19 x2_96 u))) ∧ (¬ (ya_off u) = 0 → (wpY_next (fun u98 => (∀ x4_139, x4_139 = x4 + 1 → (cy_run_58 post J19 x1 x2 n x4_139 u98))) u))))) ∧ (¬ (ya_state u) = 1 → (∀ x2_94, x2_94 = x2 + 1 → (J19 x2_94 u)))))))) := sorry
theorem uy_run_19 (post : Int32 → SY → Prop) (x1 : Int32) (n : Nat) (x2 : Int32) (u : SY) : cy_run_19 post x1 (n + 1) x2 u = (((x1 ≤ x2 → (post (ya_state u) u)) ∧ (¬ x1 ≤ x2 → ((((ya_state u) = 1 → (wpY_top (fun r_5 => (vp_in r_5 48 ∧ (∀ x3_48, x3_48 = (ya_pc u) r_5.toNatClampNeg → (wpY_execute (fun u50 => (∃ n58 : Nat, cy_run_58 post (cy_run_19 post x1 n) x1 x2 n58 0 u50)) u (ya_now u) x3_48)))) u (ya_now u))) ∧ (¬ (ya_state u) = 1 → (post (ya_state u) u))))))) := sorry
theorem uy_run (post : Int32 → SY → Prop) (u : SY) (p0 : Int32) : wpY_run post u p0 = (((p0 < 1 → (post (ya_state u) u)) ∧ (¬ p0 < 1 → (((p0 ≤ 200 → (∃ n19 : Nat, cy_run_19 post p0 n19 0 u)) ∧ (¬ p0 ≤ 200 → (post (ya_state u) u))))))) := sorry
theorem uy_printed (post : Int32 → Prop) (u : SY) : wpY_printed post u = (post (ya_printed u)) := sorry
theorem uy_output (post : Int32 → Prop) (u : SY) (p0 : Int32) : wpY_output post u p0 = (((p0 < 0 → (post 0)) ∧ (¬ p0 < 0 → (((31 < p0 → (post 0)) ∧ (¬ 31 < p0 → (((p0 < (ya_printed u) → (vp_in ((((ya_printed u) - 1) - p0) &&& 31) 32 ∧ (post ((ya_out u) ((((ya_printed u) - 1) - p0) &&& 31).toNatClampNeg)))) ∧ (¬ p0 < (ya_printed u) → (post 0)))))))))) := sorry
theorem uy_panicValue (post : Int32 → Prop) (u : SY) : wpY_panicValue post u = (post (ya_panicValue u)) := sorry
theorem uy_active (post : Int32 → Prop) (u : SY) (p0 : Int32) : wpY_active post u p0 = (((p0 < 0 → (post 0)) ∧ (¬ p0 < 0 → ((((ya_started u) ≤ p0 → (post 0)) ∧ (¬ (ya_started u) ≤ p0 → (vp_in p0 12 ∧ (((((ya_depth u) p0.toNatClampNeg) ≤ 0 → (post 0)) ∧ (¬ ((ya_depth u) p0.toNatClampNeg) ≤ 0 → (post 1))))))))))) := sorry
theorem uy_clock (post : Int64 → Prop) (u : SY) : wpY_clock post u = (post (ya_clock u)) := sorry
theorem uy_waitsAt (post : Int32 → Prop) (u : SY) (p0 : Int32) : wpY_waitsAt post u p0 = (((p0 < 0 → (post (-1))) ∧ (¬ p0 < 0 → (((p0 < (ya_started u) → (vp_in p0 12 ∧ (((((ya_status u) p0.toNatClampNeg) = 3 → (post (-2))) ∧ (¬ ((ya_status u) p0.toNatClampNeg) = 3 → (vp_in p0 12 ∧ (((((ya_status u) p0.toNatClampNeg) = 1 → (post (-3))) ∧ (¬ ((ya_status u) p0.toNatClampNeg) = 1 → (wpY_top (fun r_7 => (vp_in r_7 48 ∧ (post ((ya_pc u) r_7.toNatClampNeg)))) u p0)))))))))) ∧ (¬ p0 < (ya_started u) → (post (-1)))))))) := sorry
theorem uy_variable (post : Int32 → Prop) (u : SY) (p0 : Int32) (p1 : Int32) : wpY_variable post u p0 p1 = (wpY_active (fun r_1 => (((r_1 = 0 → (post 0)) ∧ (¬ r_1 = 0 → (((p1 < 0 → (post 0)) ∧ (¬ p1 < 0 → (((5 < p1 → (post 0)) ∧ (¬ 5 < p1 → (wpY_top (fun r_46 => (vp_in ((6 * r_46) + p1) 288 ∧ (post ((ya_vars u) ((6 * r_46) + p1).toNatClampNeg)))) u p0))))))))))) u p0) := sorry
theorem uy_channel (post : Int32 → Prop) (u : SY) (p0 : Int32) : wpY_channel post u p0 = (wpY_channelAt (fun r_1 => (((r_1 = 0 → (post (-1))) ∧ (¬ r_1 = 0 → (vp_in (p0 - 1) 8 ∧ (vp_in (p0 - 1) 8 ∧ (((((ya_closed u) (p0 - 1).toNatClampNeg) = 0 → (post (((ya_held u) (p0 - 1).toNatClampNeg) + 0))) ∧ (¬ ((ya_closed u) (p0 - 1).toNatClampNeg) = 0 → (post (((ya_held u) (p0 - 1).toNatClampNeg) + 8))))))))))) u p0) := sorry
theorem uy_notes (post : Int32 → Prop) (u : SY) (p0 : Int32) : wpY_notes post u p0 = (wpY_active (fun r_1 => (((r_1 = 0 → (post (-1))) ∧ (¬ r_1 = 0 → (wpY_top (fun r_44 => (vp_in r_44 48 ∧ (post ((ya_noted u) r_44.toNatClampNeg)))) u p0))))) u p0) := sorry
theorem uy_panicking_14 (post : Int32 → Prop) (x1 : Int32) (u : SY) (n : Nat) (x2 : Int32) (x3 : Int32) : cy_panicking_14 post x1 u (n + 1) x2 x3 = (wpY_top (fun r_45 => (((r_45 < x3 → (post x2)) ∧ (¬ r_45 < x3 → (vp_in x3 48 ∧ (((((ya_panics u) x3.toNatClampNeg) = 0 → (∀ x3_90, x3_90 = x3 + 1 → (cy_panicking_14 post x1 u n x2 x3_90))) ∧ (¬ ((ya_panics u) x3.toNatClampNeg) = 0 → (∀ x2_91, x2_91 = x2 + 1 → (∀ x3_92, x3_92 = x3 + 1 → (cy_panicking_14 post x1 u n x2_91 x3_92))))))))))) u x1) := sorry
theorem uy_panicking (post : Int32 → Prop) (u : SY) (p0 : Int32) : wpY_panicking post u p0 = (wpY_active (fun r_1 => (((r_1 = 0 → (post 0)) ∧ (¬ r_1 = 0 → (∀ x3_44, x3_44 = 4 * p0 → (∃ n14 : Nat, cy_panicking_14 post p0 u n14 0 x3_44)))))) u p0) := sorry
end
section
/-! the open blocks before a line, as a list: the innermost first -/
abbrev st_op (k : Int32) : Prop := k = 0 ∨ k = 2 ∨ k = 4 ∨ k = 6
abbrev st_sec (k : Int32) : Prop := k = 7 ∨ k = 8 ∨ k = 9 ∨ k = 29
def st_s (K : Nat → Int32) : Nat → List Nat
  | 0 => []
  | i + 1 => if K i = 1 then (st_s K i).tail else if st_op (K i) then i :: st_s K i else st_s K i
theorem st_op1 {k : Int32} (h : st_op k) : ¬ k = 1 := by
  rcases h with h | h | h | h <;> (subst h; decide)
theorem st_end {K : Nat → Int32} {i : Nat} (h : K i = 1) : st_s K (i + 1) = (st_s K i).tail := by
  show (if K i = 1 then _ else _) = _
  rw [if_pos h]
theorem st_opn {K : Nat → Int32} {i : Nat} (h : st_op (K i)) : st_s K (i + 1) = i :: st_s K i := by
  show (if K i = 1 then _ else _) = _
  rw [if_neg (st_op1 h), if_pos h]
theorem st_oth {K : Nat → Int32} {i : Nat} (h1 : ¬ K i = 1) (h : ¬ st_op (K i)) : st_s K (i + 1) = st_s K i := by
  show (if K i = 1 then _ else _) = _
  rw [if_neg h1, if_neg h]
theorem st_lt {K : Nat → Int32} : ∀ {i b : Nat}, b ∈ st_s K i → b < i ∧ st_op (K b) := by
  intro i
  induction i with
  | zero => intro b h; cases h
  | succ i ih =>
    intro b h
    by_cases h1 : K i = 1
    · rw [st_end h1] at h
      have := ih (List.mem_of_mem_tail h)
      exact ⟨by omega, this.2⟩
    · by_cases h2 : st_op (K i)
      · rw [st_opn h2] at h
        rcases List.mem_cons.mp h with e | h
        · subst e; exact ⟨by omega, h2⟩
        · have := ih h
          exact ⟨by omega, this.2⟩
      · rw [st_oth h1 h2] at h
        have := ih h
        exact ⟨by omega, this.2⟩
/-- below a block on the stack lie the blocks that were open before it -/
theorem st_sfx {K : Nat → Int32} : ∀ {i b : Nat} {l r : List Nat}, st_s K i = l ++ b :: r → st_s K b = r := by
  intro i
  induction i with
  | zero => intro b l r h; cases l <;> cases h
  | succ i ih =>
    intro b l r h
    by_cases h1 : K i = 1
    · rw [st_end h1] at h
      cases e : st_s K i with
      | nil => rw [e] at h; cases l <;> cases h
      | cons x t =>
        rw [e] at h
        have h' : t = l ++ b :: r := h
        exact ih (l := x :: l) (by rw [e, h']; rfl)
    · by_cases h2 : st_op (K i)
      · rw [st_opn h2] at h
        cases l with
        | nil => injection h with a c; subst a; exact c
        | cons x t => injection h with a c; exact ih c
      · rw [st_oth h1 h2] at h
        exact ih h
theorem st_hd {K : Nat → Int32} {i b : Nat} {r : List Nat} (h : st_s K i = b :: r) : st_s K b = r := st_sfx (l := []) h
/-- what was true of the stack at j, was so at every line behind the block's first -/
theorem st_back {K : Nat → Int32} {n : Nat} (F : ∀ i, i < n → K i = 1 → st_s K i ≠ []) : ∀ {j : Nat} {o : Nat} {l r : List Nat}, j ≤ n → st_s K j = l ++ o :: r → ∀ i, o < i → i ≤ j → ∃ l', st_s K i = l' ++ o :: r := by
  intro j
  induction j with
  | zero => intro o l r _ h; cases l <;> cases h
  | succ j ih =>
    intro o l r hj h i hi hij
    by_cases e : i = j + 1
    · subst e; exact ⟨l, h⟩
    · by_cases h1 : K j = 1
      · rw [st_end h1] at h
        cases e2 : st_s K j with
        | nil => exact absurd e2 (F j (by omega) h1)
        | cons x t =>
          rw [e2] at h
          have h' : t = l ++ o :: r := h
          exact ih (l := x :: l) (by omega) (by rw [e2, h']; rfl) i hi (by omega)
      · by_cases h2 : st_op (K j)
        · rw [st_opn h2] at h
          cases l with
          | nil => injection h with a c; omega
          | cons x t => injection h with a c; exact ih (by omega) c i hi (by omega)
        · rw [st_oth h1 h2] at h
          exact ih (by omega) h i hi (by omega)
theorem st_len {o : Nat} {l r : List Nat} (h : l ++ o :: r = o :: r) : l = [] := by
  have := congrArg List.length h
  rw [List.length_append] at this
  exact List.length_eq_zero_iff.mp (by omega)
theorem st_nlen {o : Nat} {l r : List Nat} (h : r = l ++ o :: r) : False := by
  have := congrArg List.length h
  rw [List.length_append, List.length_cons] at this
  omega
/-- a block that is open when the lines end not, has its END -/
theorem st_hasEnd {K : Nat → Int32} {n : Nat} (Z : st_s K n = []) : ∀ (d i o : Nat) (l r : List Nat), i + d = n → st_s K i = l ++ o :: r → ∃ e, i ≤ e ∧ e < n ∧ K e = 1 ∧ st_s K e = o :: r := by
  intro d
  induction d with
  | zero => intro i o l r hi h; rw [show i = n by omega, Z] at h; cases l <;> cases h
  | succ d ih =>
    intro i o l r hi h
    by_cases h1 : K i = 1
    · cases l with
      | nil => exact ⟨i, by omega, by omega, h1, h⟩
      | cons x t =>
        obtain ⟨e, a, b⟩ := ih (i + 1) o t r (by omega) (by rw [st_end h1, h]; rfl)
        exact ⟨e, by omega, b⟩
    · by_cases h2 : st_op (K i)
      · obtain ⟨e, a, b⟩ := ih (i + 1) o (i :: l) r (by omega) (by rw [st_opn h2, h]; rfl)
        exact ⟨e, by omega, b⟩
      · obtain ⟨e, a, b⟩ := ih (i + 1) o l r (by omega) (by rw [st_oth h1 h2, h])
        exact ⟨e, by omega, b⟩
theorem st_bnd (K : Nat → Int32) : ∀ i, (st_s K i).length ≤ i := by
  intro i
  induction i with
  | zero => exact Nat.le_refl 0
  | succ i ih =>
    by_cases h1 : K i = 1
    · rw [st_end h1, List.length_tail]; omega
    · by_cases h2 : st_op (K i)
      · rw [st_opn h2, List.length_cons]; omega
      · rw [st_oth h1 h2]; omega
/-- what the form of the lines gives: of each line up to n -/
def st_F (K : Nat → Int32) (n : Nat) : Prop := ∀ i, i < n → (K i = 0 ↔ st_s K i = [])
theorem st_F1 {K : Nat → Int32} {n : Nat} (F : st_F K n) : ∀ i, i < n → K i = 1 → st_s K i ≠ [] := by
  intro i hi h1 h
  rw [(F i hi).mpr h] at h1
  exact absurd h1 (by decide)
theorem st_uniq {K : Nat → Int32} {n : Nat} (F : st_F K n) {e e' o : Nat} {r r' : List Nat} (he : e < n) (h1 : K e = 1) (hs : st_s K e = o :: r) (he' : e' < n) (h1' : K e' = 1) (hs' : st_s K e' = o :: r') : e = e' := by
  have a := st_hd hs
  have a' := st_hd hs'
  have rr : r' = r := a'.symm.trans a
  subst rr
  have key : ∀ {x y : Nat}, x < n → y < n → K x = 1 → st_s K x = o :: r' → st_s K y = o :: r' → x < y → False := by
    intro x y hx hy k1 s1 s2 hxy
    obtain ⟨l, hl⟩ := st_back (st_F1 F) (j := y) (l := []) (by omega) s2 (x + 1) (by have := (st_lt (K := K) (i := x) (b := o) (by rw [s1]; exact List.mem_cons_self)).1; omega) (by omega)
    rw [st_end k1, s1] at hl
    exact st_nlen hl
  rcases Nat.lt_trichotomy e e' with h | h | h
  · exact (key he he' h1 hs hs' h).elim
  · exact h
  · exact (key he' he h1' hs' hs h).elim
/-- the END of a block -/
def st_e (K : Nat → Int32) (o : Nat) : Nat → Nat
  | 0 => 0
  | e + 1 => if K e = 1 ∧ (st_s K e).head? = some o then e else st_e K o e
theorem st_e_eq {K : Nat → Int32} {n : Nat} (F : st_F K n) {e o : Nat} {r : List Nat} (he : e < n) (h1 : K e = 1) (hs : st_s K e = o :: r) : st_e K o n = e := by
  have key : ∀ m, e < m → m ≤ n → st_e K o m = e := by
    intro m
    induction m with
    | zero => intro h; omega
    | succ m ih =>
      intro hm hn
      show (if _ then _ else _) = _
      by_cases c : K m = 1 ∧ (st_s K m).head? = some o
      · rw [if_pos c]
        cases hc : st_s K m with
        | nil => rw [hc] at c; exact absurd c.2 (by simp)
        | cons x t =>
          rw [hc] at c
          have : x = o := by have := c.2; simpa using this
          subst this
          exact (st_uniq F he h1 hs (by omega) c.1 hc).symm
      · rw [if_neg c]
        by_cases e2 : e = m
        · subst e2
          exact absurd ⟨h1, by rw [hs]; rfl⟩ c
        · exact ih (by omega) (by omega)
  exact key n he (Nat.le_refl n)
/-- what is known of the END of a block that line i lies in -/
theorem st_e_of {K : Nat → Int32} {n : Nat} (F : st_F K n) (Z : st_s K n = []) {i o : Nat} {l r : List Nat} (hi : i ≤ n) (hs : st_s K i = l ++ o :: r) : i ≤ st_e K o n ∧ st_e K o n < n ∧ K (st_e K o n) = 1 ∧ st_s K (st_e K o n) = o :: r := by
  obtain ⟨e, a, b, c, d⟩ := st_hasEnd Z (n - i) i o l r (by omega) hs
  rw [st_e_eq F b c d]
  exact ⟨a, b, c, d⟩
abbrev st_mk (k : Int32) : Prop := k = 1 ∨ k = 3 ∨ st_sec k
/-- where a goroutine that comes to line j goes on -/
def st_c (K : Nat → Int32) (n : Nat) : Nat → Nat → Nat
  | 0, j => j
  | f + 1, j => if st_mk (K j) then (match st_s K j with
    | [] => j
    | o :: _ => if K o = 0 then j else if K o = 4 then o else st_c K n f (st_e K o n + 1)) else j
def st_ch (K : Nat → Int32) (n j : Nat) : Nat := st_c K n n j
def st_wf (K : Nat → Int32) (n : Nat) : Prop :=
  n ≤ 60 ∧ st_s K n = [] ∧ st_F K n ∧ (∀ i, i < n → K i = 3 → ∃ o r, st_s K i = o :: r ∧ K o = 2) ∧
  (∀ i, i < n → st_sec (K i) → ∃ o r, st_s K i = o :: r ∧ K o = 6) ∧ (∀ i, i < n → K i = 5 → ∃ b, b ∈ st_s K i ∧ K b = 4)
theorem st_mkhd {K : Nat → Int32} {n j : Nat} (F : st_F K n) (hj : j < n) (h : st_mk (K j)) : ∃ o r, st_s K j = o :: r ∧ o < j ∧ st_op (K o) ∧ r = st_s K o := by
  cases e : st_s K j with
  | nil =>
    have := (F j hj).mpr e
    rw [this] at h
    exact absurd h (by decide)
  | cons o r =>
    have := st_lt (K := K) (i := j) (b := o) (by rw [e]; exact List.mem_cons_self)
    exact ⟨o, r, rfl, this.1, this.2, (st_hd e).symm⟩
/-- behind the END of an IF or a SELECT stands a line -/
theorem st_next {K : Nat → Int32} {n i o : Nat} {l r : List Nat} (F : st_F K n) (Z : st_s K n = []) (hi : i < n) (hs : st_s K i = l ++ o :: r) (h0 : ¬ K o = 0) : i < st_e K o n + 1 ∧ st_e K o n + 1 < n ∧ st_s K (st_e K o n + 1) = r := by
  obtain ⟨a, b, c, d⟩ := st_e_of F Z (Nat.le_of_lt hi) hs
  have e1 : st_s K (st_e K o n + 1) = r := by rw [st_end c, d]; rfl
  have ho : o < n := by
    have := (st_lt (K := K) (i := i) (b := o) (by rw [hs]; simp)).1
    omega
  refine ⟨by omega, ?_, e1⟩
  have hr : r = st_s K o := (st_sfx hs).symm
  by_cases z : st_e K o n + 1 = n
  · rw [z, Z] at e1
    exact absurd ((F o ho).mpr (hr.symm.trans e1.symm)) h0
  · omega
theorem st_c_fuel {K : Nat → Int32} {n : Nat} (F : st_F K n) (Z : st_s K n = []) : ∀ f f' j, j < n → n - j ≤ f → n - j ≤ f' → st_c K n f j = st_c K n f' j := by
  intro f
  induction f with
  | zero => intro f' j hj h; omega
  | succ f ih =>
    intro f' j hj h h'
    obtain ⟨f', rfl⟩ : ∃ q, f' = q + 1 := ⟨f' - 1, by omega⟩
    show (if _ then _ else _) = (if _ then _ else _)
    by_cases hm : st_mk (K j)
    · rw [if_pos hm, if_pos hm]
      obtain ⟨o, r, e, ho, hk, hr⟩ := st_mkhd F hj hm
      rw [e]
      show (if _ then _ else _) = (if _ then _ else _)
      by_cases h0 : K o = 0
      · rw [if_pos h0, if_pos h0]
      · rw [if_neg h0, if_neg h0]
        by_cases h4 : K o = 4
        · rw [if_pos h4, if_pos h4]
        · rw [if_neg h4, if_neg h4]
          obtain ⟨a, b, _⟩ := st_next F Z hj (l := []) e h0
          exact ih f' _ b (by omega) (by omega)
    · rw [if_neg hm, if_neg hm]
theorem st_ch_n {K : Nat → Int32} {n j : Nat} (hj : j < n) (h : ¬ st_mk (K j)) : st_ch K n j = j := by
  obtain ⟨m, rfl⟩ : ∃ q, n = q + 1 := ⟨n - 1, by omega⟩
  show (if _ then _ else _) = _
  rw [if_neg h]
theorem st_ch_0 {K : Nat → Int32} {n j o : Nat} {r : List Nat} (hj : j < n) (h : st_mk (K j)) (e : st_s K j = o :: r) (h0 : K o = 0) : st_ch K n j = j := by
  obtain ⟨m, rfl⟩ : ∃ q, n = q + 1 := ⟨n - 1, by omega⟩
  show (if _ then _ else _) = _
  rw [if_pos h, e]
  show (if _ then _ else _) = _
  rw [if_pos h0]
theorem st_ch_4 {K : Nat → Int32} {n j o : Nat} {r : List Nat} (hj : j < n) (h : st_mk (K j)) (e : st_s K j = o :: r) (h4 : K o = 4) : st_ch K n j = o := by
  obtain ⟨m, rfl⟩ : ∃ q, n = q + 1 := ⟨n - 1, by omega⟩
  show (if _ then _ else _) = _
  rw [if_pos h, e]
  show (if _ then _ else _) = _
  rw [if_neg (by rw [h4]; decide), if_pos h4]
theorem st_ch_s {K : Nat → Int32} {n j o : Nat} {r : List Nat} (F : st_F K n) (Z : st_s K n = []) (hj : j < n) (h : st_mk (K j)) (e : st_s K j = o :: r) (h0 : ¬ K o = 0) (h4 : ¬ K o = 4) : st_ch K n j = st_ch K n (st_e K o n + 1) := by
  obtain ⟨a, b, _⟩ := st_next F Z hj (l := []) e h0
  rw [show st_ch K n (st_e K o n + 1) = st_c K n (n - 1) (st_e K o n + 1) from st_c_fuel F Z n (n - 1) _ b (by omega) (by omega)]
  obtain ⟨m, rfl⟩ : ∃ q, n = q + 1 := ⟨n - 1, by omega⟩
  show (if _ then _ else _) = _
  rw [if_pos h, e]
  show (if _ then _ else _) = _
  rw [if_neg h0, if_neg h4]
  rfl
/-- a line at which a goroutine may stand -/
def st_rest (K : Nat → Int32) (i : Nat) : Prop := ¬ st_mk (K i) ∨ (K i = 1 ∧ ∃ o r, st_s K i = o :: r ∧ K o = 0)
theorem st_ch_ok {K : Nat → Int32} {n : Nat} (W : st_wf K n) : ∀ d j, j < n → n - j ≤ d → st_ch K n j < n ∧ st_rest K (st_ch K n j) := by
  obtain ⟨n60, Z, F, W3, W4, W5⟩ := W
  intro d
  induction d with
  | zero => intro j hj h; omega
  | succ d ih =>
    intro j hj h
    by_cases hm : st_mk (K j)
    · obtain ⟨o, r, e, ho, hk, hr⟩ := st_mkhd F hj hm
      by_cases h0 : K o = 0
      · rw [st_ch_0 hj hm e h0]
        refine ⟨hj, Or.inr ⟨?_, o, r, e, h0⟩⟩
        rcases hm with h1 | h3 | hs
        · exact h1
        · obtain ⟨o', r', e', k'⟩ := W3 j hj h3
          rw [e] at e'
          injection e' with a b
          rw [← a, h0] at k'
          exact absurd k' (by decide)
        · obtain ⟨o', r', e', k'⟩ := W4 j hj hs
          rw [e] at e'
          injection e' with a b
          rw [← a, h0] at k'
          exact absurd k' (by decide)
      · by_cases h4 : K o = 4
        · rw [st_ch_4 hj hm e h4]
          exact ⟨by omega, Or.inl (by rw [h4]; decide)⟩
        · rw [st_ch_s F Z hj hm e h0 h4]
          obtain ⟨a, b, _⟩ := st_next F Z hj (l := []) e h0
          exact ih _ b (by omega)
    · rw [st_ch_n hj hm]
      exact ⟨hj, Or.inl hm⟩
end
section
/-! Y: the scans over the lines -/
theorem yo_t {post : Int32 → Prop} {k : Int32} (h : st_op k) (p : post 1) : wpY_opens post k := by
  unfold wpY_opens
  rcases h with h | h | h | h <;> (subst h; simp [p])
theorem yo_f {post : Int32 → Prop} {k : Int32} (h : ¬ st_op k) (p : post 0) : wpY_opens post k := by
  unfold wpY_opens
  simp only [st_op, not_or] at h
  exact br_f h.1 (br_f h.2.1 (br_f h.2.2.1 (br_f h.2.2.2 p)))
theorem ysec_t {post : Int32 → Prop} {k : Int32} (h : st_sec k) (p : post 1) : wpY_section post k := by
  unfold wpY_section wY_section_12
  rcases h with h | h | h | h <;> (subst h; simp [p])
theorem sec_iff (k : Int32) : st_sec k ↔ (7 ≤ k.toInt ∧ k.toInt ≤ 9) ∨ k.toInt = 29 := by
  have e : ∀ m : Int32, k = m ↔ k.toInt = m.toInt := fun m => Int32.toInt_inj.symm
  simp only [st_sec, e, show (7 : Int32).toInt = 7 from rfl, show (8 : Int32).toInt = 8 from rfl, show (9 : Int32).toInt = 9 from rfl, show (29 : Int32).toInt = 29 from rfl]
  omega
theorem ysec_f {post : Int32 → Prop} {k : Int32} (h : ¬ st_sec k) (p : post 0) : wpY_section post k := by
  rw [sec_iff] at h
  have h29 : ¬ k = 29 := fun z => h (Or.inr (by rw [z]; rfl))
  refine br_c (fun _ => br_f h29 p) (fun a => br_f (fun b => h (Or.inl ?_)) (br_f h29 p))
  rw [Int32.lt_iff_toInt_lt, show (7 : Int32).toInt = 7 from rfl] at a
  rw [Int32.le_iff_toInt_le, show (9 : Int32).toInt = 9 from rfl] at b
  omega
theorem ye_loop {post : Int32 → Prop} {v : SY} {n e o : Nat} (hn : ya_lines v = nI n) (n60 : n ≤ 60) (he : e < n) (h1 : ya_kind v e = 1)
    (W : ∀ i, o < i → i ≤ e → ∃ l, st_s (ya_kind v) i = l ++ o :: st_s (ya_kind v) o) (hs : st_s (ya_kind v) e = o :: st_s (ya_kind v) o) (hp : post (nI e)) :
    ∀ (d i : Nat) (l : List Nat), i + d = e → o < i → st_s (ya_kind v) i = l ++ o :: st_s (ya_kind v) o → ∀ m, d < m → wY_endOf_6 post (ya_lines v) (ya_bad v) (ya_state v) (ya_queued v) (ya_started v) (ya_now v) (ya_clock v) (ya_turn v) (ya_off v) (ya_made v) (ya_printed v) (ya_panicValue v) (ya_kind v) (ya_opA v) (ya_opB v) (ya_opC v) (ya_open v) (ya_seen v) (ya_unset v) (ya_status v) (ya_depth v) (ya_since v) (ya_resume v) (ya_shocked v) (ya_queue v) (ya_until v) (ya_channels v) (ya_pc v) (ya_vars v) (ya_noted v) (ya_noteOf v) (ya_noteB v) (ya_noteC v) (ya_asNote v) (ya_panics v) (ya_panicWith v) (ya_capacity v) (ya_held v) (ya_closed v) (ya_values v) (ya_out v) m (nI l.length) (nI i) := by
  intro d
  induction d with
  | zero =>
    intro i l hi ho hl m hm
    obtain ⟨m, rfl⟩ : ∃ q, m = q + 1 := ⟨m - 1, by omega⟩
    have e1 : i = e := by omega
    subst e1
    have hl0 : l = [] := st_len (hl.symm.trans hs)
    subst hl0
    refine br_f (by rw [hn]; exact nI_ge he (by omega)) ⟨vp_in_nI (by omega) (by decide), ?_⟩
    rw [nI_clamp (by omega), h1]
    refine yo_f (by decide) (br_t rfl ⟨vp_in_nI (by omega) (by decide), br_t rfl (nm_e (br_t rfl hp))⟩)
  | succ d ih =>
    intro i l hi ho hl m hm
    obtain ⟨m, rfl⟩ : ∃ q, m = q + 1 := ⟨m - 1, by omega⟩
    refine br_f (by rw [hn]; exact nI_ge (by omega) (by omega)) ⟨vp_in_nI (by omega) (by decide), ?_⟩
    rw [nI_clamp (by omega)]
    by_cases h2 : st_op (ya_kind v i)
    · refine yo_t h2 (br_f (by decide) (nm_r (nI_1 _) (nm_r (nI_1 _) ?_)))
      exact ih (i + 1) (i :: l) (by omega) (by omega) (by rw [st_opn h2, hl]; rfl) m (by omega)
    · refine yo_f h2 (br_t rfl ⟨vp_in_nI (by omega) (by decide), ?_⟩)
      by_cases h3 : ya_kind v i = 1
      · cases l with
        | nil =>
          obtain ⟨l', hl'⟩ := W (i + 1) (by omega) (by omega)
          rw [st_end h3, hl] at hl'
          exact absurd hl' (fun z => st_nlen z)
        | cons x t =>
          refine br_t h3 (nm_r (pk_m1 _) (br_f (nI_ne0 (Nat.succ_pos _) ?_) (nm_r (nI_1 _) ?_)))
          · have := st_bnd (ya_kind v) i
            rw [hl, List.length_append, List.length_cons] at this
            rw [List.length_cons]
            omega
          · exact ih (i + 1) t (by omega) (by omega) (by rw [st_end h3, hl]; rfl) m (by omega)
      · refine br_f h3 (nm_r (nI_1 _) ?_)
        exact ih (i + 1) l (by omega) (by omega) (by rw [st_oth h3 h2, hl]) m (by omega)
theorem ye_endOf {post : Int32 → Prop} {v : SY} {n e o : Nat} {r : List Nat} (hn : ya_lines v = nI n) (n60 : n ≤ 60) (F : st_F (ya_kind v) n) (he : e < n) (h1 : ya_kind v e = 1)
    (hs : st_s (ya_kind v) e = o :: r) (hp : post (nI e)) : wpY_endOf post v (nI o) := by
  have hr := st_hd hs
  subst hr
  have ho : o < e := (st_lt (K := ya_kind v) (i := e) (b := o) (by rw [hs]; exact List.mem_cons_self)).1
  have W := st_back (st_F1 F) (j := e) (l := []) (by omega) hs
  obtain ⟨l, hl⟩ := W (o + 1) (by omega) (by omega)
  have hk : st_op (ya_kind v o) := (st_lt (K := ya_kind v) (i := e) (b := o) (by rw [hs]; exact List.mem_cons_self)).2
  have key := ye_loop (v := v) hn n60 he h1 W hs hp (e - (o + 1)) (o + 1) [] (by omega) (by omega) (st_opn hk) (e + 1) (by omega)
  obtain ⟨f_lines, f_bad, f_state, f_queued, f_started, f_now, f_clock, f_turn, f_off, f_made, f_printed, f_panicValue, a_kind, a_opA, a_opB, a_opC, a_open, a_seen, a_unset, a_status, a_depth, a_since, a_resume, a_shocked, a_queue, a_until, a_channels, a_pc, a_vars, a_noted, a_noteOf, a_noteB, a_noteC, a_asNote, a_panics, a_panicWith, a_capacity, a_held, a_closed, a_values, a_out⟩ := v
  exact nm_r (nI_1 _) ⟨_, key⟩
theorem yop_l2 {post : Int32 → Prop} {v : SY} (hp : post (nI 0)) : ∀ i, (∀ i', 0 < i' → i' ≤ i → ¬ ya_kind v i' = 0) → i < 60 → ∀ m, i < m → wY_opener_57 post (ya_lines v) (ya_bad v) (ya_state v) (ya_queued v) (ya_started v) (ya_now v) (ya_clock v) (ya_turn v) (ya_off v) (ya_made v) (ya_printed v) (ya_panicValue v) (ya_kind v) (ya_opA v) (ya_opB v) (ya_opC v) (ya_open v) (ya_seen v) (ya_unset v) (ya_status v) (ya_depth v) (ya_since v) (ya_resume v) (ya_shocked v) (ya_queue v) (ya_until v) (ya_channels v) (ya_pc v) (ya_vars v) (ya_noted v) (ya_noteOf v) (ya_noteB v) (ya_noteC v) (ya_asNote v) (ya_panics v) (ya_panicWith v) (ya_capacity v) (ya_held v) (ya_closed v) (ya_values v) (ya_out v) m (nI i) := by
  intro i
  induction i with
  | zero =>
    intro _ _ m hm
    obtain ⟨m, rfl⟩ : ∃ q, m = q + 1 := ⟨m - 1, by omega⟩
    exact br_t (by decide) hp
  | succ i ih =>
    intro hk hi m hm
    obtain ⟨m, rfl⟩ : ∃ q, m = q + 1 := ⟨m - 1, by omega⟩
    refine br_f (nI_nle (by omega) (by omega)) ⟨vp_in_nI hi (by decide), ?_⟩
    rw [nI_clamp (by omega)]
    exact br_f (hk (i + 1) (by omega) (by omega)) (nm_r (pk_m1 _) (ih (fun i' a b => hk i' a (by omega)) (by omega) m (by omega)))
theorem yop_l1 {post : Int32 → Prop} {v : SY} {n j o : Nat} {r : List Nat} (n60 : n ≤ 60) (F : st_F (ya_kind v) n) (hj : j < n) (hs : st_s (ya_kind v) j = o :: r) (hp : post (nI o)) :
    ∀ (i : Nat) (l : List Nat), i < j → st_s (ya_kind v) (i + 1) = l ++ o :: r → ∀ m, i < m → wY_opener_6 post (nI j) (ya_lines v) (ya_bad v) (ya_state v) (ya_queued v) (ya_started v) (ya_now v) (ya_clock v) (ya_turn v) (ya_off v) (ya_made v) (ya_printed v) (ya_panicValue v) (ya_kind v) (ya_opA v) (ya_opB v) (ya_opC v) (ya_open v) (ya_seen v) (ya_unset v) (ya_status v) (ya_depth v) (ya_since v) (ya_resume v) (ya_shocked v) (ya_queue v) (ya_until v) (ya_channels v) (ya_pc v) (ya_vars v) (ya_noted v) (ya_noteOf v) (ya_noteB v) (ya_noteC v) (ya_asNote v) (ya_panics v) (ya_panicWith v) (ya_capacity v) (ya_held v) (ya_closed v) (ya_values v) (ya_out v) m (nI l.length) (nI i) := by
  intro i
  induction i with
  | zero =>
    intro l hi hl m hm
    obtain ⟨m, rfl⟩ : ∃ q, m = q + 1 := ⟨m - 1, by omega⟩
    have k0 : ya_kind v 0 = 0 := (F 0 (by omega)).mpr rfl
    rw [st_opn (Or.inl k0)] at hl
    have ho : o = 0 := by
      cases l with
      | nil => injection hl with a b; exact a.symm
      | cons x t => injection hl with a b; cases t <;> cases b
    subst ho
    refine br_t (by decide) (nm_r (pk_sub (b := 1) (by omega)) ⟨j, yop_l2 hp (j - 1) ?_ (by omega) j (by omega)⟩)
    intro i' a b z
    obtain ⟨l', hl'⟩ := st_back (st_F1 F) (j := j) (l := []) (by omega) hs (i' + 1) (by omega) (by omega)
    rw [st_opn (Or.inl z), (F i' (by omega)).mp z] at hl'
    cases l' with
    | nil => injection hl' with c d; omega
    | cons x t => injection hl' with c d; cases t <;> cases d
  | succ i ih =>
    intro l hi hl m hm
    obtain ⟨m, rfl⟩ : ∃ q, m = q + 1 := ⟨m - 1, by omega⟩
    refine br_f (nI_nle (by omega) (by omega)) ⟨vp_in_nI (by omega) (by decide), ?_⟩
    rw [nI_clamp (by omega)]
    by_cases h1 : ya_kind v (i + 1) = 1
    · refine br_t h1 (nm_r (nI_1 _) (nm_r (pk_m1 _) ?_))
      rw [st_end h1] at hl
      cases e2 : st_s (ya_kind v) (i + 1) with
      | nil => exact absurd e2 (st_F1 F (i + 1) (by omega) h1)
      | cons x t =>
        rw [e2] at hl
        exact ih (x :: l) (by omega) (by rw [e2, show t = l ++ o :: r from hl]; rfl) m (by omega)
    · refine br_f h1 ⟨vp_in_nI (by omega) (by decide), ?_⟩
      by_cases h2 : st_op (ya_kind v (i + 1))
      · refine yo_t h2 (br_f (by decide) ?_)
        rw [st_opn h2] at hl
        cases l with
        | nil =>
          injection hl with a b
          subst a
          exact nm_e (br_t rfl hp)
        | cons x t =>
          injection hl with a b
          have b : st_s (ya_kind v) (i + 1) = t ++ o :: r := b
          refine nm_r (pk_m1 _) (br_f (nI_ne0 (Nat.succ_pos _) ?_) (nm_r (pk_m1 _) (ih t (by omega) b m (by omega))))
          have := st_bnd (ya_kind v) (i + 1)
          rw [b, List.length_append] at this
          rw [List.length_cons]
          omega
      · rw [st_oth h1 h2] at hl
        exact yo_f h2 (br_t rfl (nm_r (pk_m1 _) (ih l (by omega) hl m (by omega))))
theorem ye_opener {post : Int32 → Prop} {v : SY} {n j o : Nat} {r : List Nat} (n60 : n ≤ 60) (F : st_F (ya_kind v) n) (hj : j < n) (hs : st_s (ya_kind v) j = o :: r) (hp : post (nI o)) : wpY_opener post v (nI j) := by
  have j0 : 0 < j := by
    cases j with
    | zero => cases hs
    | succ j => omega
  have key := yop_l1 (v := v) n60 F hj hs hp (j - 1) [] (by omega) (by rw [show j - 1 + 1 = j by omega]; exact hs) j (by omega)
  obtain ⟨f_lines, f_bad, f_state, f_queued, f_started, f_now, f_clock, f_turn, f_off, f_made, f_printed, f_panicValue, a_kind, a_opA, a_opB, a_opC, a_open, a_seen, a_unset, a_status, a_depth, a_since, a_resume, a_shocked, a_queue, a_until, a_channels, a_pc, a_vars, a_noted, a_noteOf, a_noteB, a_noteC, a_asNote, a_panics, a_panicWith, a_capacity, a_held, a_closed, a_values, a_out⟩ := v
  exact nm_r (pk_sub (b := 1) (by omega)) ⟨_, key⟩
/-- a line that begins a part of block o -/
def st_P (K : Nat → Int32) (o j : Nat) : Prop := (st_s K j).head? = some o ∧ (K j = 3 ∨ st_sec (K j))
theorem yp_loop {post : Int32 → Prop} {v : SY} {n e o : Nat} {r : List Nat} (n60 : n ≤ 60) (he : e < n) (W : ∀ i, o < i → i ≤ e → ∃ l, st_s (ya_kind v) i = l ++ o :: r) :
    ∀ (d j : Nat) (l : List Nat), j + d = e → o < j → st_s (ya_kind v) j = l ++ o :: r →
    (∀ j', j ≤ j' → j' < e → st_P (ya_kind v) o j' → (∀ i, j ≤ i → i < j' → ¬ st_P (ya_kind v) o i) → post (nI j')) →
    ((∀ i, j ≤ i → i < e → ¬ st_P (ya_kind v) o i) → post (-1)) → ∀ m, d < m → wY_part_14 post (nI e) (ya_lines v) (ya_bad v) (ya_state v) (ya_queued v) (ya_started v) (ya_now v) (ya_clock v) (ya_turn v) (ya_off v) (ya_made v) (ya_printed v) (ya_panicValue v) (ya_kind v) (ya_opA v) (ya_opB v) (ya_opC v) (ya_open v) (ya_seen v) (ya_unset v) (ya_status v) (ya_depth v) (ya_since v) (ya_resume v) (ya_shocked v) (ya_queue v) (ya_until v) (ya_channels v) (ya_pc v) (ya_vars v) (ya_noted v) (ya_noteOf v) (ya_noteB v) (ya_noteC v) (ya_asNote v) (ya_panics v) (ya_panicWith v) (ya_capacity v) (ya_held v) (ya_closed v) (ya_values v) (ya_out v) m (nI l.length) (nI j) := by
  intro d
  induction d with
  | zero =>
    intro j l hj ho hl hS hN m hm
    obtain ⟨m, rfl⟩ : ∃ q, m = q + 1 := ⟨m - 1, by omega⟩
    exact br_t (nI_le (by omega) (by omega)) (hN (fun i a b => by omega))
  | succ d ih =>
    intro j l hj ho hl hS hN m hm
    obtain ⟨m, rfl⟩ : ∃ q, m = q + 1 := ⟨m - 1, by omega⟩
    refine br_f (nI_ge (by omega) (by omega)) ⟨vp_in_nI (by omega) (by decide), ?_⟩
    rw [nI_clamp (by omega)]
    have next : ∀ (l' : List Nat), ¬ st_P (ya_kind v) o j → st_s (ya_kind v) (j + 1) = l' ++ o :: r → wY_part_14 post (nI e) (ya_lines v) (ya_bad v) (ya_state v) (ya_queued v) (ya_started v) (ya_now v) (ya_clock v) (ya_turn v) (ya_off v) (ya_made v) (ya_printed v) (ya_panicValue v) (ya_kind v) (ya_opA v) (ya_opB v) (ya_opC v) (ya_open v) (ya_seen v) (ya_unset v) (ya_status v) (ya_depth v) (ya_since v) (ya_resume v) (ya_shocked v) (ya_queue v) (ya_until v) (ya_channels v) (ya_pc v) (ya_vars v) (ya_noted v) (ya_noteOf v) (ya_noteB v) (ya_noteC v) (ya_asNote v) (ya_panics v) (ya_panicWith v) (ya_capacity v) (ya_held v) (ya_closed v) (ya_values v) (ya_out v) m (nI l'.length) (nI (j + 1)) := by
      intro l' hP hl'
      refine ih (j + 1) l' (by omega) (by omega) hl' (fun j' a b c g => hS j' (by omega) b c (fun i p q => ?_)) (fun g => hN (fun i p q => ?_)) m (by omega)
      · by_cases z : i = j
        · subst z; exact hP
        · exact g i (by omega) q
      · by_cases z : i = j
        · subst z; exact hP
        · exact g i (by omega) q
    have notP : ¬ (ya_kind v j = 3 ∨ st_sec (ya_kind v j)) → ¬ st_P (ya_kind v) o j := fun z y => z y.2
    by_cases h2 : st_op (ya_kind v j)
    · refine yo_t h2 (br_f (by decide) (nm_r (nI_1 _) (nm_r (nI_1 _) (next (j :: l) (notP ?_) (by rw [st_opn h2, hl]; rfl)))))
      rcases h2 with h | h | h | h <;> (rw [h]; decide)
    · refine yo_f h2 (br_t rfl ⟨vp_in_nI (by omega) (by decide), ?_⟩)
      by_cases h1 : ya_kind v j = 1
      · refine br_t h1 ?_
        cases l with
        | nil =>
          obtain ⟨l', hl'⟩ := W (j + 1) (by omega) (by omega)
          rw [st_end h1, hl] at hl'
          exact absurd hl' (fun z => st_nlen z)
        | cons x t => exact nm_r (pk_m1 _) (nm_r (nI_1 _) (next t (notP (by rw [h1]; decide)) (by rw [st_end h1, hl]; rfl)))
      · refine br_f h1 ?_
        cases l with
        | nil =>
          refine br_t rfl ⟨vp_in_nI (by omega) (by decide), ?_⟩
          have hh : (st_s (ya_kind v) j).head? = some o := by rw [hl]; rfl
          by_cases h3 : ya_kind v j = 3
          · exact br_t h3 (hS j (Nat.le_refl j) (by omega) ⟨hh, Or.inl h3⟩ (fun i a b => by omega))
          · refine br_f h3 ⟨vp_in_nI (by omega) (by decide), ?_⟩
            by_cases h4 : st_sec (ya_kind v j)
            · exact ysec_t h4 (br_f (by decide) (hS j (Nat.le_refl j) (by omega) ⟨hh, Or.inr h4⟩ (fun i a b => by omega)))
            · exact ysec_f h4 (br_t rfl (nm_r (nI_1 _) (next [] (notP (fun z => z.elim h3 h4)) (by rw [st_oth h1 h2, hl]))))
        | cons x t =>
          have lb := st_bnd (ya_kind v) j
          rw [hl, List.length_append] at lb
          refine br_f (nI_ne0 (by rw [List.length_cons]; omega) (by omega)) (nm_r (nI_1 _) (next (x :: t) ?_ (by rw [st_oth h1 h2, hl])))
          intro z
          have z1 := z.1
          rw [hl] at z1
          have z2 : x = o := by simpa using z1
          subst z2
          have z3 := st_sfx (K := ya_kind v) (i := j) (b := x) (l := []) hl
          have z4 := st_sfx (K := ya_kind v) (i := j) (b := x) (l := x :: t) hl
          rw [z4] at z3
          exact st_nlen z3
theorem ye_part {post : Int32 → Prop} {v : SY} {n e o i : Nat} {r : List Nat} (hn : ya_lines v = nI n) (n60 : n ≤ 60) (F : st_F (ya_kind v) n) (he : e < n) (h1 : ya_kind v e = 1)
    (hs : st_s (ya_kind v) e = o :: r) (hi : o ≤ i) (hie : i < e) (hsi : st_s (ya_kind v) (i + 1) = o :: r)
    (hS : ∀ j', i < j' → j' < e → st_P (ya_kind v) o j' → (∀ k, i < k → k < j' → ¬ st_P (ya_kind v) o k) → post (nI j'))
    (hN : (∀ k, i < k → k < e → ¬ st_P (ya_kind v) o k) → post (-1)) : wpY_part post v (nI o) (nI i) := by
  have W := st_back (st_F1 F) (j := e) (l := []) (by omega) hs
  have key := yp_loop (v := v) n60 he W (e - (i + 1)) (i + 1) [] (by omega) (by omega) hsi (fun j' a b c g => hS j' (by omega) b c (fun k p q => g k (by omega) q)) (fun g => hN (fun k p q => g k (by omega) q)) e (by omega)
  have key2 := ye_endOf (v := v) (post := fun r_1 => ∀ x, x = nI i + 1 → ∃ m, wY_part_14 post r_1 (ya_lines v) (ya_bad v) (ya_state v) (ya_queued v) (ya_started v) (ya_now v) (ya_clock v) (ya_turn v) (ya_off v) (ya_made v) (ya_printed v) (ya_panicValue v) (ya_kind v) (ya_opA v) (ya_opB v) (ya_opC v) (ya_open v) (ya_seen v) (ya_unset v) (ya_status v) (ya_depth v) (ya_since v) (ya_resume v) (ya_shocked v) (ya_queue v) (ya_until v) (ya_channels v) (ya_pc v) (ya_vars v) (ya_noted v) (ya_noteOf v) (ya_noteB v) (ya_noteC v) (ya_asNote v) (ya_panics v) (ya_panicWith v) (ya_capacity v) (ya_held v) (ya_closed v) (ya_values v) (ya_out v) m 0 x) hn n60 F he h1 hs (nm_r (nI_1 _) ⟨_, key⟩)
  obtain ⟨f_lines, f_bad, f_state, f_queued, f_started, f_now, f_clock, f_turn, f_off, f_made, f_printed, f_panicValue, a_kind, a_opA, a_opB, a_opC, a_open, a_seen, a_unset, a_status, a_depth, a_since, a_resume, a_shocked, a_queue, a_until, a_channels, a_pc, a_vars, a_noted, a_noteOf, a_noteB, a_noteC, a_asNote, a_panics, a_panicWith, a_capacity, a_held, a_closed, a_values, a_out⟩ := v
  exact key2
theorem ys_40 {post : Int32 → Prop} {J : Int32 → Int32 → Prop} {v : SY} {n j o c : Nat} {r : List Nat} (hn : ya_lines v = nI n) (n60 : n ≤ 60) (F : st_F (ya_kind v) n) (Z : st_s (ya_kind v) n = []) (hj : j < n) (e : st_s (ya_kind v) j = o :: r)
    (h0 : ya_kind v o = 0 → post (nI j)) (h4 : ya_kind v o = 4 → post (nI o)) (hs : ¬ ya_kind v o = 0 → ¬ ya_kind v o = 4 → J (nI (st_e (ya_kind v) o n + 1)) (nI (c + 1))) : wY_settle_40 post J (nI j) (nI c) (ya_lines v) (ya_bad v) (ya_state v) (ya_queued v) (ya_started v) (ya_now v) (ya_clock v) (ya_turn v) (ya_off v) (ya_made v) (ya_printed v) (ya_panicValue v) (ya_kind v) (ya_opA v) (ya_opB v) (ya_opC v) (ya_open v) (ya_seen v) (ya_unset v) (ya_status v) (ya_depth v) (ya_since v) (ya_resume v) (ya_shocked v) (ya_queue v) (ya_until v) (ya_channels v) (ya_pc v) (ya_vars v) (ya_noted v) (ya_noteOf v) (ya_noteB v) (ya_noteC v) (ya_asNote v) (ya_panics v) (ya_panicWith v) (ya_capacity v) (ya_held v) (ya_closed v) (ya_values v) (ya_out v) := by
  have ho : o < j := (st_lt (K := ya_kind v) (i := j) (b := o) (by rw [e]; exact List.mem_cons_self)).1
  obtain ⟨p1, p2, p3, p4⟩ := st_e_of F Z (l := []) (Nat.le_of_lt hj) e
  have key : wpY_opener (fun r_5 => (vp_in r_5 60 ∧ ((((ya_kind v r_5.toNatClampNeg) = 0 → (post (nI j))) ∧ (¬ (ya_kind v r_5.toNatClampNeg) = 0 → (vp_in r_5 60 ∧ ((((ya_kind v r_5.toNatClampNeg) = 4 → (post r_5)) ∧ (¬ (ya_kind v r_5.toNatClampNeg) = 4 → (wpY_endOf (fun r_51 => (∀ x, x = r_51 + 1 → ∀ y, y = nI c + 1 → (J x y))) v r_5)))))))))) v (nI j) := by
    refine ye_opener (v := v) n60 F hj e ⟨vp_in_nI (by omega) (by decide), ?_⟩
    rw [nI_clamp (by omega)]
    refine br_c h0 (fun n0 => ⟨vp_in_nI (by omega) (by decide), br_c h4 (fun n4 => ?_)⟩)
    exact ye_endOf (v := v) hn n60 F p2 p3 p4 (nm_r (nI_1 _) (nm_r (nI_1 _) (hs n0 n4)))
  obtain ⟨f_lines, f_bad, f_state, f_queued, f_started, f_now, f_clock, f_turn, f_off, f_made, f_printed, f_panicValue, a_kind, a_opA, a_opB, a_opC, a_open, a_seen, a_unset, a_status, a_depth, a_since, a_resume, a_shocked, a_queue, a_until, a_channels, a_pc, a_vars, a_noted, a_noteOf, a_noteB, a_noteC, a_asNote, a_panics, a_panicWith, a_capacity, a_held, a_closed, a_values, a_out⟩ := v
  exact key
theorem ys_loop {post : Int32 → Prop} {v : SY} {n : Nat} (hn : ya_lines v = nI n) (n60 : n ≤ 60) (F : st_F (ya_kind v) n) (Z : st_s (ya_kind v) n = []) : ∀ d j c, j < n → n - j ≤ d → c + d ≤ 120 → post (nI (st_ch (ya_kind v) n j)) → ∀ m, d < m → wY_settle_4 post (ya_lines v) (ya_bad v) (ya_state v) (ya_queued v) (ya_started v) (ya_now v) (ya_clock v) (ya_turn v) (ya_off v) (ya_made v) (ya_printed v) (ya_panicValue v) (ya_kind v) (ya_opA v) (ya_opB v) (ya_opC v) (ya_open v) (ya_seen v) (ya_unset v) (ya_status v) (ya_depth v) (ya_since v) (ya_resume v) (ya_shocked v) (ya_queue v) (ya_until v) (ya_channels v) (ya_pc v) (ya_vars v) (ya_noted v) (ya_noteOf v) (ya_noteB v) (ya_noteC v) (ya_asNote v) (ya_panics v) (ya_panicWith v) (ya_capacity v) (ya_held v) (ya_closed v) (ya_values v) (ya_out v) m (nI j) (nI c) := by
  intro d
  induction d with
  | zero => intro j c hj h; omega
  | succ d ih =>
    intro j c hj h hc hp m hm
    obtain ⟨m, rfl⟩ : ∃ q, m = q + 1 := ⟨m - 1, by omega⟩
    refine br_f (nI_ge (b := 120) (by omega) (by omega)) ⟨vp_in_nI (by omega) (by decide), ?_⟩
    rw [nI_clamp (by omega)]
    have s40 : st_mk (ya_kind v j) → wY_settle_40 post (wY_settle_4 post (ya_lines v) (ya_bad v) (ya_state v) (ya_queued v) (ya_started v) (ya_now v) (ya_clock v) (ya_turn v) (ya_off v) (ya_made v) (ya_printed v) (ya_panicValue v) (ya_kind v) (ya_opA v) (ya_opB v) (ya_opC v) (ya_open v) (ya_seen v) (ya_unset v) (ya_status v) (ya_depth v) (ya_since v) (ya_resume v) (ya_shocked v) (ya_queue v) (ya_until v) (ya_channels v) (ya_pc v) (ya_vars v) (ya_noted v) (ya_noteOf v) (ya_noteB v) (ya_noteC v) (ya_asNote v) (ya_panics v) (ya_panicWith v) (ya_capacity v) (ya_held v) (ya_closed v) (ya_values v) (ya_out v) m) (nI j) (nI c) (ya_lines v) (ya_bad v) (ya_state v) (ya_queued v) (ya_started v) (ya_now v) (ya_clock v) (ya_turn v) (ya_off v) (ya_made v) (ya_printed v) (ya_panicValue v) (ya_kind v) (ya_opA v) (ya_opB v) (ya_opC v) (ya_open v) (ya_seen v) (ya_unset v) (ya_status v) (ya_depth v) (ya_since v) (ya_resume v) (ya_shocked v) (ya_queue v) (ya_until v) (ya_channels v) (ya_pc v) (ya_vars v) (ya_noted v) (ya_noteOf v) (ya_noteB v) (ya_noteC v) (ya_asNote v) (ya_panics v) (ya_panicWith v) (ya_capacity v) (ya_held v) (ya_closed v) (ya_values v) (ya_out v) := by
      intro hk
      obtain ⟨o, r, e, ho, hop, hr⟩ := st_mkhd F hj hk
      refine ys_40 (v := v) hn n60 F Z hj e (fun h0 => ?_) (fun h4 => ?_) (fun h0 h4 => ?_)
      · rw [st_ch_0 hj hk e h0] at hp; exact hp
      · rw [st_ch_4 hj hk e h4] at hp; exact hp
      · rw [st_ch_s F Z hj hk e h0 h4] at hp
        obtain ⟨a, b, _⟩ := st_next F Z hj (l := []) e h0
        exact ih _ _ b (by omega) (by omega) hp m (by omega)
    refine nm_e ?_
    by_cases h1 : ya_kind v j = 1
    · exact br_t h1 (s40 (Or.inl h1))
    · refine br_f h1 ?_
      by_cases h3 : ya_kind v j = 3
      · exact br_t h3 (s40 (Or.inr (Or.inl h3)))
      · refine br_f h3 ?_
        by_cases h4 : st_sec (ya_kind v j)
        · exact ysec_t h4 (br_f (by decide) (s40 (Or.inr (Or.inr h4))))
        · rw [st_ch_n hj (fun z => z.elim h1 (fun z => z.elim h3 h4))] at hp
          exact ysec_f h4 (br_t rfl hp)
theorem ye_settle {post : Int32 → Prop} {v : SY} {n j : Nat} (hn : ya_lines v = nI n) (W : st_wf (ya_kind v) n) (hj : j < n) (hp : post (nI (st_ch (ya_kind v) n j))) : wpY_settle post v (nI j) := by
  obtain ⟨n60, Z, F, _⟩ := W
  have key := ys_loop (v := v) hn n60 F Z 60 j 0 hj (by omega) (by omega) hp 61 (by omega)
  obtain ⟨f_lines, f_bad, f_state, f_queued, f_started, f_now, f_clock, f_turn, f_off, f_made, f_printed, f_panicValue, a_kind, a_opA, a_opB, a_opC, a_open, a_seen, a_unset, a_status, a_depth, a_since, a_resume, a_shocked, a_queue, a_until, a_channels, a_pc, a_vars, a_noted, a_noteOf, a_noteB, a_noteC, a_asNote, a_panics, a_panicWith, a_capacity, a_held, a_closed, a_values, a_out⟩ := v
  exact ⟨_, key⟩
end
section
/-! the form of the lines -/
def st_h : List Nat → Int32
  | [] => -1
  | b :: _ => nI b
def st_n (K : Nat → Int32) (P : Int32 → Bool) (o : Nat) : Nat → Nat
  | 0 => 0
  | i + 1 => st_n K P o i + (if (st_s K i).head? = some o ∧ P (K i) = true then 1 else 0)
def st_pc (k : Int32) : Bool := k == 7 || k == 8
def st_pa (k : Int32) : Bool := k == 9 || k == 29
theorem st_pc_iff {k : Int32} : st_pc k = true ↔ k = 7 ∨ k = 8 := by simp [st_pc]
theorem st_pa_iff {k : Int32} : st_pa k = true ↔ k = 9 ∨ k = 29 := by simp [st_pa]
/-- block o has an ELSE before line i -/
def st_el (K : Nat → Int32) (o i : Nat) : Prop := ∃ j, j < i ∧ K j = 3 ∧ (st_s K j).head? = some o
def fm_ok (K : Nat → Int32) (i : Nat) : Prop := match st_s K i with
  | [] => K i = 0
  | o :: _ => ¬ K i = 0 ∧ (K i = 1 ∨ (st_sec (K i) ∧ K o = 6 ∧ (st_pc (K i) = true → st_n K st_pc o i < 3) ∧ (st_pc (K i) = false → st_n K st_pa o i < 1)) ∨
    (¬ K i = 1 ∧ ¬ st_sec (K i) ∧ ¬ (K o = 6 ∧ o + 1 = i) ∧ (K i = 3 → K o = 2 ∧ ¬ st_el K o i) ∧ (K i = 5 → ∃ b, b ∈ st_s K i ∧ K b = 4)))
def fm_res (K : Nat → Int32) (n : Nat) (r : Int32) : Prop :=
  (∃ i, i < n ∧ (∀ j, j < i → fm_ok K j) ∧ ¬ fm_ok K i ∧ r = nI i) ∨
  ((∀ j, j < n → fm_ok K j) ∧ ((st_s K n = [] ∧ 0 < n ∧ r = -1) ∨ (¬ (st_s K n = [] ∧ 0 < n) ∧ r = nI n)))
theorem fm_uniq {K : Nat → Int32} {n : Nat} {r r' : Int32} (h : fm_res K n r) (h' : fm_res K n r') : r' = r := by
  rcases h with ⟨i, a, b, c, d⟩ | ⟨b, c⟩
  · rcases h' with ⟨i', a', b', c', d'⟩ | ⟨b', c'⟩
    · rcases Nat.lt_trichotomy i i' with z | z | z
      · exact absurd (b' i z) c
      · subst z; rw [d, d']
      · exact absurd (b i' z) c'
    · exact absurd (b' i a) c
  · rcases h' with ⟨i', a', b', c', d'⟩ | ⟨b', c'⟩
    · exact absurd (b i' a') c'
    · rcases c with ⟨c1, c2, c3⟩ | ⟨c1, c3⟩ <;> rcases c' with ⟨d1, d2, d3⟩ | ⟨d1, d3⟩
      · rw [c3, d3]
      · exact absurd ⟨c1, c2⟩ d1
      · exact absurd ⟨d1, d2⟩ c1
      · rw [c3, d3]
theorem fm_nil {K : Nat → Int32} {i : Nat} (e : st_s K i = []) : fm_ok K i ↔ K i = 0 := by
  unfold fm_ok; rw [e]
theorem fm_cons {K : Nat → Int32} {i o : Nat} {r : List Nat} (e : st_s K i = o :: r) : fm_ok K i ↔ (¬ K i = 0 ∧ (K i = 1 ∨ (st_sec (K i) ∧ K o = 6 ∧ (st_pc (K i) = true → st_n K st_pc o i < 3) ∧ (st_pc (K i) = false → st_n K st_pa o i < 1)) ∨
    (¬ K i = 1 ∧ ¬ st_sec (K i) ∧ ¬ (K o = 6 ∧ o + 1 = i) ∧ (K i = 3 → K o = 2 ∧ ¬ st_el K o i) ∧ (K i = 5 → ∃ b, b ∈ st_s K i ∧ K b = 4)))) := by
  unfold fm_ok; rw [e]
/-- the number of FUNC lines before a line -/
def st_f (K : Nat → Int32) : Nat → Nat
  | 0 => 0
  | i + 1 => st_f K i + (if K i = 0 then 1 else 0)
/-- what X's check of the form has written, up to line i -/
def fm_X (K : Nat → Int32) (i : Nat) (u : SX) : Prop :=
  (∀ j, j < i → xa_blockOf u j = st_h (st_s K j)) ∧
  (∀ e, e < i → K e = 1 → ∀ o r, st_s K e = o :: r → xa_endOf u o = nI e) ∧
  (∀ o, o < i → (xa_elseOf u o = -1 ∧ ¬ st_el K o i) ∨ ∃ j, j < i ∧ K j = 3 ∧ (st_s K j).head? = some o ∧ xa_elseOf u o = nI j) ∧
  (∀ j, j < i → K j = 0 → xa_functionLine u (st_f K j) = nI j) ∧
  xa_functionCount u = nI (st_f K i) ∧ 2 * st_f K i ≤ i + (if st_s K i = [] then 0 else 1)

/-! X: small methods over a kind -/
theorem xk_case {post : Int32 → Prop} {u : SX} {k : Int32} (h1 : st_pc k = true → post 1) (h0 : st_pc k = false → post 0) : wpX_isCase post u k := by
  obtain ⟨f_lineCount, f_functionCount, f_foundLine, f_state, f_time, f_endingPanic, f_outputCount, f_channelCount, f_goroutineCount, f_waitsBegun, f_running, f_queueLength, a_kinds, a_argA, a_argB, a_argC, a_blockOf, a_endOf, a_elseOf, a_functionLine, a_surelySet, a_outputs, a_capacity, a_fill, a_closed, a_held, a_status, a_depth, a_waitOrder, a_waitUntil, a_queue, a_slotWish, a_slotLine, a_position, a_mode, a_panicOf, a_noteCount, a_noteFunction, a_noteValues, a_variables⟩ := u
  refine br_c (fun a => h1 (st_pc_iff.mpr (Or.inl a))) (fun a => br_c (fun b => h1 (st_pc_iff.mpr (Or.inr b))) (fun b => h0 ?_))
  simp [st_pc, a, b]
theorem xk_alt {post : Int32 → Prop} {u : SX} {k : Int32} (h1 : st_pa k = true → post 1) (h0 : st_pa k = false → post 0) : wpX_isAlternative post u k := by
  obtain ⟨f_lineCount, f_functionCount, f_foundLine, f_state, f_time, f_endingPanic, f_outputCount, f_channelCount, f_goroutineCount, f_waitsBegun, f_running, f_queueLength, a_kinds, a_argA, a_argB, a_argC, a_blockOf, a_endOf, a_elseOf, a_functionLine, a_surelySet, a_outputs, a_capacity, a_fill, a_closed, a_held, a_status, a_depth, a_waitOrder, a_waitUntil, a_queue, a_slotWish, a_slotLine, a_position, a_mode, a_panicOf, a_noteCount, a_noteFunction, a_noteValues, a_variables⟩ := u
  refine br_c (fun a => h1 (st_pa_iff.mpr (Or.inl a))) (fun a => br_c (fun b => h1 (st_pa_iff.mpr (Or.inr b))) (fun b => h0 ?_))
  simp [st_pa, a, b]
theorem sec_or {k : Int32} : st_sec k ↔ st_pc k = true ∨ st_pa k = true := by
  rw [st_pc_iff, st_pa_iff]
  constructor
  · rintro (h | h | h | h) <;> simp [h]
  · rintro ((h | h) | (h | h)) <;> (subst h; decide)
theorem xk_sec {post : Int32 → Prop} {u : SX} {k : Int32} (h1 : st_sec k → post 1) (h0 : ¬ st_sec k → post 0) : wpX_isSection post u k := by
  have key : wpX_isCase (fun r_1 => (((r_1 = 0 → (wpX_isAlternative (fun r_43 => (((r_43 = 0 → (post 0)) ∧ (¬ r_43 = 0 → (post 1))))) u k)) ∧ (¬ r_1 = 0 → (post 1))))) u k := by
    refine xk_case (fun a => br_f (by decide) (h1 (sec_or.mpr (Or.inl a)))) (fun a => br_t rfl (xk_alt (fun b => br_f (by decide) (h1 (sec_or.mpr (Or.inr b)))) (fun b => br_t rfl (h0 ?_))))
    rw [sec_or, a, b]; decide
  obtain ⟨f_lineCount, f_functionCount, f_foundLine, f_state, f_time, f_endingPanic, f_outputCount, f_channelCount, f_goroutineCount, f_waitsBegun, f_running, f_queueLength, a_kinds, a_argA, a_argB, a_argC, a_blockOf, a_endOf, a_elseOf, a_functionLine, a_surelySet, a_outputs, a_capacity, a_fill, a_closed, a_held, a_status, a_depth, a_waitOrder, a_waitUntil, a_queue, a_slotWish, a_slotLine, a_position, a_mode, a_panicOf, a_noteCount, a_noteFunction, a_noteValues, a_variables⟩ := u
  exact key
theorem xk_start {post : Int32 → Prop} {u : SX} {k : Int32} (h1 : k = 14 ∨ k = 15 ∨ k = 16 → post 1) (h0 : ¬ (k = 14 ∨ k = 15 ∨ k = 16) → post 0) : wpX_isStart post u k := by
  obtain ⟨f_lineCount, f_functionCount, f_foundLine, f_state, f_time, f_endingPanic, f_outputCount, f_channelCount, f_goroutineCount, f_waitsBegun, f_running, f_queueLength, a_kinds, a_argA, a_argB, a_argC, a_blockOf, a_endOf, a_elseOf, a_functionLine, a_surelySet, a_outputs, a_capacity, a_fill, a_closed, a_held, a_status, a_depth, a_waitOrder, a_waitUntil, a_queue, a_slotWish, a_slotLine, a_position, a_mode, a_panicOf, a_noteCount, a_noteFunction, a_noteValues, a_variables⟩ := u
  exact br_c (fun a => h1 (Or.inl a)) (fun a => br_c (fun b => h1 (Or.inr (Or.inl b))) (fun b => br_c (fun c => h1 (Or.inr (Or.inr c))) (fun c => h0 (fun z => z.elim a (fun z => z.elim b c)))))
/-! X: the nearest LOOP outwards -/
theorem xl_loop {post : Int32 → Prop} {u : SX} {n : Nat} (n60 : n ≤ 60) (hb : ∀ j, j < n → xa_blockOf u j = st_h (st_s (xa_kinds u) j)) :
    ∀ (L : List Nat) (c : Nat), c + L.length ≤ 60 → (∀ b, b ∈ L → b < n) → (∀ b r, L = b :: r → st_s (xa_kinds u) b = r) → (∀ l b r, L = l ++ b :: r → st_s (xa_kinds u) b = r) →
    (∀ b, L.find? (fun b => xa_kinds u b == 4) = some b → post (nI b)) → (L.find? (fun b => xa_kinds u b == 4) = none → post (-1)) →
    ∀ m, L.length < m → wX_loopAround_4 post (xa_lineCount u) (xa_functionCount u) (xa_foundLine u) (xa_state u) (xa_time u) (xa_endingPanic u) (xa_outputCount u) (xa_channelCount u) (xa_goroutineCount u) (xa_waitsBegun u) (xa_running u) (xa_queueLength u) (xa_kinds u) (xa_argA u) (xa_argB u) (xa_argC u) (xa_blockOf u) (xa_endOf u) (xa_elseOf u) (xa_functionLine u) (xa_surelySet u) (xa_outputs u) (xa_capacity u) (xa_fill u) (xa_closed u) (xa_held u) (xa_status u) (xa_depth u) (xa_waitOrder u) (xa_waitUntil u) (xa_queue u) (xa_slotWish u) (xa_slotLine u) (xa_position u) (xa_mode u) (xa_panicOf u) (xa_noteCount u) (xa_noteFunction u) (xa_noteValues u) (xa_variables u) m (st_h L) (nI c) := by
  intro L
  induction L with
  | nil =>
    intro c hc _ _ _ _ hN m hm
    obtain ⟨m, rfl⟩ : ∃ q, m = q + 1 := ⟨m - 1, by simp at hm; omega⟩
    by_cases z : 60 ≤ c
    · exact br_t (nI_le (a := 60) z (by simp at hc; omega)) (hN rfl)
    · exact br_f (nI_ge (b := 60) (by omega) (by decide)) (br_t rfl (hN rfl))
  | cons b L ih =>
    intro c hc hn h1 h2 hS hN m hm
    obtain ⟨m, rfl⟩ : ∃ q, m = q + 1 := ⟨m - 1, by rw [List.length_cons] at hm; omega⟩
    rw [List.length_cons] at hc hm
    have hb60 : b < 60 := Nat.lt_of_lt_of_le (hn b List.mem_cons_self) n60
    have ne : ¬ nI b = -1 := by
      intro z
      have := congrArg Int32.toInt z
      rw [nI_toInt (by omega), show (-1 : Int32).toInt = -1 from rfl] at this
      omega
    show wX_loopAround_4 post (xa_lineCount u) (xa_functionCount u) (xa_foundLine u) (xa_state u) (xa_time u) (xa_endingPanic u) (xa_outputCount u) (xa_channelCount u) (xa_goroutineCount u) (xa_waitsBegun u) (xa_running u) (xa_queueLength u) (xa_kinds u) (xa_argA u) (xa_argB u) (xa_argC u) (xa_blockOf u) (xa_endOf u) (xa_elseOf u) (xa_functionLine u) (xa_surelySet u) (xa_outputs u) (xa_capacity u) (xa_fill u) (xa_closed u) (xa_held u) (xa_status u) (xa_depth u) (xa_waitOrder u) (xa_waitUntil u) (xa_queue u) (xa_slotWish u) (xa_slotLine u) (xa_position u) (xa_mode u) (xa_panicOf u) (xa_noteCount u) (xa_noteFunction u) (xa_noteValues u) (xa_variables u) (m + 1) (nI b) (nI c)
    refine br_f (nI_ge (b := 60) (by omega) (by decide)) (br_f ne ⟨vp_in_nI hb60 (by decide), ?_⟩)
    rw [nI_clamp (by omega)]
    by_cases k4 : xa_kinds u b = 4
    · exact br_t k4 (hS b (by rw [List.find?_cons, show (xa_kinds u b == 4) = true from by simp [k4]]))
    · refine br_f k4 ⟨vp_in_nI hb60 (by decide), ?_⟩
      have fe : (b :: L).find? (fun b => xa_kinds u b == 4) = L.find? (fun b => xa_kinds u b == 4) := by
        rw [List.find?_cons, show (xa_kinds u b == 4) = false from by simp [k4]]
      rw [fe] at hS hN
      refine nm_r (hb b (hn b List.mem_cons_self)) (nm_r (nI_1 _) ?_)
      rw [h1 b L rfl]
      exact ih (c + 1) (by omega) (fun x hx => hn x (List.mem_cons_of_mem _ hx)) (fun x r e => h2 (b :: []) x r (by rw [e]; rfl)) (fun l x r e => h2 (b :: l) x r (by rw [e]; rfl)) hS hN m (by omega)
theorem xl_loopAround {post : Int32 → Prop} {u : SX} {n i : Nat} (n60 : n ≤ 60) (hb : ∀ j, j < n → xa_blockOf u j = st_h (st_s (xa_kinds u) j)) (hi : i ≤ n)
    (hS : ∀ b, (st_s (xa_kinds u) i).find? (fun b => xa_kinds u b == 4) = some b → post (nI b)) (hN : (st_s (xa_kinds u) i).find? (fun b => xa_kinds u b == 4) = none → post (-1)) : wpX_loopAround post u (st_h (st_s (xa_kinds u) i)) := by
  have lb := st_bnd (xa_kinds u) i
  have key := xl_loop (u := u) n60 hb (st_s (xa_kinds u) i) 0 (by omega) (fun b h => by have := (st_lt h).1; omega) (fun b r e => st_hd e) (fun l b r e => st_sfx e) hS hN _ (Nat.lt_succ_self _)
  obtain ⟨f_lineCount, f_functionCount, f_foundLine, f_state, f_time, f_endingPanic, f_outputCount, f_channelCount, f_goroutineCount, f_waitsBegun, f_running, f_queueLength, a_kinds, a_argA, a_argB, a_argC, a_blockOf, a_endOf, a_elseOf, a_functionLine, a_surelySet, a_outputs, a_capacity, a_fill, a_closed, a_held, a_status, a_depth, a_waitOrder, a_waitUntil, a_queue, a_slotWish, a_slotLine, a_position, a_mode, a_panicOf, a_noteCount, a_noteFunction, a_noteValues, a_variables⟩ := u
  exact ⟨_, key⟩
/-! X: the sections before -/
theorem xn_cnt {K : Nat → Int32} {P : Int32 → Bool} {o i : Nat} : st_n K P o (i + 1) = st_n K P o i + (if (st_s K i).head? = some o ∧ P (K i) = true then 1 else 0) := rfl
theorem xn_0 {K : Nat → Int32} {P : Int32 → Bool} {o : Nat} : ∀ i, i ≤ o + 1 → st_n K P o i = 0 := by
  intro i
  induction i with
  | zero => intro _; rfl
  | succ i ih =>
    intro h
    rw [xn_cnt, ih (by omega), if_neg]
    rintro ⟨a, _⟩
    cases e : st_s K i with
    | nil => rw [e] at a; cases a
    | cons x t =>
      rw [e] at a
      have : x = o := by simpa using a
      have := (st_lt (K := K) (i := i) (b := x) (by rw [e]; exact List.mem_cons_self)).1
      omega
theorem st_hd_iff {L : List Nat} {o : Nat} (h : ∀ b, b ∈ L → b < 2 ^ 31) (ho : o < 2 ^ 31) : st_h L = nI o ↔ L.head? = some o := by
  cases L with
  | nil =>
    constructor
    · intro z
      have := congrArg Int32.toInt z
      rw [nI_toInt ho, show (st_h []).toInt = -1 from rfl] at this
      omega
    · intro z; cases z
  | cons x t =>
    show nI x = nI o ↔ some x = some o
    rw [nI_eq (h x List.mem_cons_self) ho]
    simp
theorem xn_le {K : Nat → Int32} {P : Int32 → Bool} {o : Nat} : ∀ i, st_n K P o i ≤ i := by
  intro i
  induction i with
  | zero => exact Nat.le_refl 0
  | succ i ih => rw [xn_cnt]; split <;> omega
theorem xs_44 {post : Int32 → Prop} {J : Int32 → Int32 → Int32 → Prop} {u : SX} {o i j c a : Nat} (ho : o < 60) (hj : j < 60) (hb : xa_blockOf u j = st_h (st_s (xa_kinds u) j))
    (h : J (nI c) (nI (a + (if (st_s (xa_kinds u) j).head? = some o ∧ st_pa (xa_kinds u j) = true then 1 else 0))) (nI (j + 1))) : wX_sectionFits_44 post J (nI o) (nI i) (nI c) (nI a) (nI j) (xa_lineCount u) (xa_functionCount u) (xa_foundLine u) (xa_state u) (xa_time u) (xa_endingPanic u) (xa_outputCount u) (xa_channelCount u) (xa_goroutineCount u) (xa_waitsBegun u) (xa_running u) (xa_queueLength u) (xa_kinds u) (xa_argA u) (xa_argB u) (xa_argC u) (xa_blockOf u) (xa_endOf u) (xa_elseOf u) (xa_functionLine u) (xa_surelySet u) (xa_outputs u) (xa_capacity u) (xa_fill u) (xa_closed u) (xa_held u) (xa_status u) (xa_depth u) (xa_waitOrder u) (xa_waitUntil u) (xa_queue u) (xa_slotWish u) (xa_slotLine u) (xa_position u) (xa_mode u) (xa_panicOf u) (xa_noteCount u) (xa_noteFunction u) (xa_noteValues u) (xa_variables u) := by
  have hd : st_h (st_s (xa_kinds u) j) = nI o ↔ (st_s (xa_kinds u) j).head? = some o := st_hd_iff (fun b m => by have := (st_lt m).1; omega) (by omega)
  refine ⟨vp_in_nI hj (by decide), ?_⟩
  rw [nI_clamp (by omega), hb, hd]
  refine br_c (fun z => ⟨vp_in_nI hj (by decide), ?_⟩) (fun z => nm_r (nI_1 _) ?_)
  · refine xk_alt (u := (xa_lineCount u, xa_functionCount u, xa_foundLine u, xa_state u, xa_time u, xa_endingPanic u, xa_outputCount u, xa_channelCount u, xa_goroutineCount u, xa_waitsBegun u, xa_running u, xa_queueLength u, xa_kinds u, xa_argA u, xa_argB u, xa_argC u, xa_blockOf u, xa_endOf u, xa_elseOf u, xa_functionLine u, xa_surelySet u, xa_outputs u, xa_capacity u, xa_fill u, xa_closed u, xa_held u, xa_status u, xa_depth u, xa_waitOrder u, xa_waitUntil u, xa_queue u, xa_slotWish u, xa_slotLine u, xa_position u, xa_mode u, xa_panicOf u, xa_noteCount u, xa_noteFunction u, xa_noteValues u, xa_variables u)) (fun y => br_f (by decide) (nm_r (nI_1 _) (nm_r (nI_1 _) ?_))) (fun y => br_t rfl (nm_r (nI_1 _) ?_))
    · rw [if_pos ⟨z, y⟩] at h; exact h
    · rw [if_neg (fun w => by rw [y] at w; exact absurd w.2 (by decide))] at h; exact h
  · rw [if_neg (fun w => z w.1)] at h; exact h
theorem xs_loop {post : Int32 → Prop} {u : SX} {o i : Nat} (ho : o < 60) (hi : i < 60) (hb : ∀ j, j < i → xa_blockOf u j = st_h (st_s (xa_kinds u) j))
    (h1 : (st_pc (xa_kinds u i) = true → st_n (xa_kinds u) st_pc o i < 3) ∧ (st_pc (xa_kinds u i) = false → st_n (xa_kinds u) st_pa o i < 1) → post 1)
    (h0 : ¬ ((st_pc (xa_kinds u i) = true → st_n (xa_kinds u) st_pc o i < 3) ∧ (st_pc (xa_kinds u i) = false → st_n (xa_kinds u) st_pa o i < 1)) → post 0) :
    ∀ d j, j + d = i → ∀ m, d < m → wX_sectionFits_10 post (nI o) (nI i) (xa_lineCount u) (xa_functionCount u) (xa_foundLine u) (xa_state u) (xa_time u) (xa_endingPanic u) (xa_outputCount u) (xa_channelCount u) (xa_goroutineCount u) (xa_waitsBegun u) (xa_running u) (xa_queueLength u) (xa_kinds u) (xa_argA u) (xa_argB u) (xa_argC u) (xa_blockOf u) (xa_endOf u) (xa_elseOf u) (xa_functionLine u) (xa_surelySet u) (xa_outputs u) (xa_capacity u) (xa_fill u) (xa_closed u) (xa_held u) (xa_status u) (xa_depth u) (xa_waitOrder u) (xa_waitUntil u) (xa_queue u) (xa_slotWish u) (xa_slotLine u) (xa_position u) (xa_mode u) (xa_panicOf u) (xa_noteCount u) (xa_noteFunction u) (xa_noteValues u) (xa_variables u) m (nI (st_n (xa_kinds u) st_pc o j)) (nI (st_n (xa_kinds u) st_pa o j)) (nI j) := by
  intro d
  induction d with
  | zero =>
    intro j hj m hm
    obtain ⟨m, rfl⟩ : ∃ q, m = q + 1 := ⟨m - 1, by omega⟩
    have e : j = i := by omega
    subst e
    have la := xn_le (K := xa_kinds u) (P := st_pa) (o := o) j
    have lc := xn_le (K := xa_kinds u) (P := st_pc) (o := o) j
    refine br_t (nI_le (Nat.le_refl _) (by omega)) ⟨vp_in_nI hi (by decide), ?_⟩
    rw [nI_clamp (by omega)]
    refine xk_case (u := (xa_lineCount u, xa_functionCount u, xa_foundLine u, xa_state u, xa_time u, xa_endingPanic u, xa_outputCount u, xa_channelCount u, xa_goroutineCount u, xa_waitsBegun u, xa_running u, xa_queueLength u, xa_kinds u, xa_argA u, xa_argB u, xa_argC u, xa_blockOf u, xa_endOf u, xa_elseOf u, xa_functionLine u, xa_surelySet u, xa_outputs u, xa_capacity u, xa_fill u, xa_closed u, xa_held u, xa_status u, xa_depth u, xa_waitOrder u, xa_waitUntil u, xa_queue u, xa_slotWish u, xa_slotLine u, xa_position u, xa_mode u, xa_panicOf u, xa_noteCount u, xa_noteFunction u, xa_noteValues u, xa_variables u)) (fun y => br_f (by decide) ?_) (fun y => br_t rfl ?_)
    · by_cases q : st_n (xa_kinds u) st_pc o j < 3
      · exact br_f (nI_ge (b := 3) q (by decide)) (h1 ⟨fun _ => q, fun z => absurd (y.symm.trans z) (by decide)⟩)
      · exact br_t (nI_le (a := 3) (by omega) (by omega)) (h0 (fun z => q (z.1 y)))
    · by_cases q : st_n (xa_kinds u) st_pa o j < 1
      · exact br_f (nI_ge (b := 1) q (by decide)) (h1 ⟨fun z => absurd (y.symm.trans z) (by decide), fun _ => q⟩)
      · exact br_t (nI_le (a := 1) (by omega) (by omega)) (h0 (fun z => q (z.2 y)))
  | succ d ih =>
    intro j hj m hm
    obtain ⟨m, rfl⟩ : ∃ q, m = q + 1 := ⟨m - 1, by omega⟩
    have hd : st_h (st_s (xa_kinds u) j) = nI o ↔ (st_s (xa_kinds u) j).head? = some o := st_hd_iff (fun b m => by have := (st_lt m).1; omega) (by omega)
    have nx := ih (j + 1) (by omega) m (by omega)
    rw [xn_cnt, xn_cnt] at nx
    refine br_f (nI_ge (by omega) (by omega)) ⟨vp_in_nI (by omega) (by decide), ?_⟩
    rw [nI_clamp (by omega), hb j (by omega), hd]
    refine br_c (fun z => ⟨vp_in_nI (by omega) (by decide), ?_⟩) (fun z => ?_)
    · refine xk_case (u := (xa_lineCount u, xa_functionCount u, xa_foundLine u, xa_state u, xa_time u, xa_endingPanic u, xa_outputCount u, xa_channelCount u, xa_goroutineCount u, xa_waitsBegun u, xa_running u, xa_queueLength u, xa_kinds u, xa_argA u, xa_argB u, xa_argC u, xa_blockOf u, xa_endOf u, xa_elseOf u, xa_functionLine u, xa_surelySet u, xa_outputs u, xa_capacity u, xa_fill u, xa_closed u, xa_held u, xa_status u, xa_depth u, xa_waitOrder u, xa_waitUntil u, xa_queue u, xa_slotWish u, xa_slotLine u, xa_position u, xa_mode u, xa_panicOf u, xa_noteCount u, xa_noteFunction u, xa_noteValues u, xa_variables u)) (fun y => br_f (by decide) (nm_r (nI_1 _) ?_)) (fun y => br_t rfl ?_)
      · rw [if_pos ⟨z, y⟩] at nx
        exact xs_44 ho (by omega) (hb j (by omega)) nx
      · rw [if_neg (fun w => by rw [y] at w; exact absurd w.2 (by decide))] at nx
        exact xs_44 ho (by omega) (hb j (by omega)) nx
    · rw [if_neg (fun w => z w.1)] at nx
      exact xs_44 ho (by omega) (hb j (by omega)) nx
theorem xs_fits {post : Int32 → Prop} {u : SX} {o i : Nat} (ho : o < i) (hi : i < 60) (hb : ∀ j, j < i → xa_blockOf u j = st_h (st_s (xa_kinds u) j))
    (h1 : (st_pc (xa_kinds u i) = true → st_n (xa_kinds u) st_pc o i < 3) ∧ (st_pc (xa_kinds u i) = false → st_n (xa_kinds u) st_pa o i < 1) → post 1)
    (h0 : ¬ ((st_pc (xa_kinds u i) = true → st_n (xa_kinds u) st_pc o i < 3) ∧ (st_pc (xa_kinds u i) = false → st_n (xa_kinds u) st_pa o i < 1)) → post 0) : wpX_sectionFits post u (nI o) (nI i) := by
  have key := xs_loop (u := u) (o := o) (by omega) hi hb h1 h0 (i - (o + 1)) (o + 1) (by omega) i (by omega)
  rw [xn_0 (o + 1) (Nat.le_refl _), xn_0 (o + 1) (Nat.le_refl _)] at key
  obtain ⟨f_lineCount, f_functionCount, f_foundLine, f_state, f_time, f_endingPanic, f_outputCount, f_channelCount, f_goroutineCount, f_waitsBegun, f_running, f_queueLength, a_kinds, a_argA, a_argB, a_argC, a_blockOf, a_endOf, a_elseOf, a_functionLine, a_surelySet, a_outputs, a_capacity, a_fill, a_closed, a_held, a_status, a_depth, a_waitOrder, a_waitUntil, a_queue, a_slotWish, a_slotLine, a_position, a_mode, a_panicOf, a_noteCount, a_noteFunction, a_noteValues, a_variables⟩ := u
  exact nm_r (nI_1 _) ⟨_, key⟩
theorem ne_m1 {b : Nat} (h : b < 2 ^ 31) : ¬ nI b = -1 := by
  intro z
  have := congrArg Int32.toInt z
  rw [nI_toInt h, show (-1 : Int32).toInt = -1 from rfl] at this
  omega
theorem xf_89 {post : Int32 → Prop} {u : SX} {n i o : Nat} {r : List Nat} (n60 : n ≤ 60) (hi : i < n) (hb : ∀ j, j < i → xa_blockOf u j = st_h (st_s (xa_kinds u) j))
    (he : ∀ o, o < i → (xa_elseOf u o = -1 ∧ ¬ st_el (xa_kinds u) o i) ∨ ∃ j, j < i ∧ xa_kinds u j = 3 ∧ (st_s (xa_kinds u) j).head? = some o ∧ xa_elseOf u o = nI j) (e : st_s (xa_kinds u) i = o :: r)
    (h1 : (xa_kinds u i = 3 → xa_kinds u o = 2 ∧ ¬ st_el (xa_kinds u) o i) ∧ (xa_kinds u i = 5 → ∃ b, b ∈ st_s (xa_kinds u) i ∧ xa_kinds u b = 4) → post 1)
    (h0 : ¬ ((xa_kinds u i = 3 → xa_kinds u o = 2 ∧ ¬ st_el (xa_kinds u) o i) ∧ (xa_kinds u i = 5 → ∃ b, b ∈ st_s (xa_kinds u) i ∧ xa_kinds u b = 4)) → post 0) : cx_fitsInto_89 post (nI o) (xa_kinds u i) u := by
  rw [ux_fitsInto_89]
  have ho : o < i := (st_lt (K := xa_kinds u) (i := i) (b := o) (by rw [e]; exact List.mem_cons_self)).1
  have ec : (nI o).toNatClampNeg = o := nI_clamp (by omega)
  refine br_c (fun k3 => ⟨vp_in_nI (by omega) (by decide), ?_⟩) (fun k3 => br_c (fun k5 => ?_) (fun k5 => h1 ⟨fun z => absurd z k3, fun z => absurd z k5⟩))
  · rw [ec]
    refine br_c (fun k2 => ⟨vp_in_nI (by omega) (by decide), ?_⟩) (fun k2 => h0 (fun z => k2 (z.1 k3).1))
    rcases he o ho with ⟨a, b⟩ | ⟨j, a, b, c, d⟩
    · exact br_t a (h1 ⟨fun _ => ⟨k2, b⟩, fun z => by rw [k3] at z; exact absurd z (by decide)⟩)
    · exact br_f (by rw [d]; exact ne_m1 (by omega)) (h0 (fun z => (z.1 k3).2 ⟨j, a, b, c⟩))
  · have key := xl_loopAround (u := u) (n := i) (i := i) (post := fun r_52 => (((r_52 = (-1) → (post 0)) ∧ (¬ r_52 = (-1) → (post 1))))) (by omega) hb (Nat.le_refl _) (fun b hb' => br_f (ne_m1 ?_) (h1 ⟨fun z => absurd z k3, fun _ => ⟨b, ?_, ?_⟩⟩)) (fun hN => br_t rfl (h0 (fun z => ?_)))
    · rw [e] at key; exact key
    · have := (st_lt (List.mem_of_find?_eq_some hb')).1; omega
    · exact List.mem_of_find?_eq_some hb'
    · have := List.find?_some hb'; simpa using this
    · obtain ⟨b, m, k⟩ := z.2 k5
      have := List.find?_eq_none.mp hN b m
      simp [k] at this
theorem xf_fits {post : Int32 → Prop} {u : SX} {n i : Nat} (n60 : n ≤ 60) (hi : i < n) (hb : ∀ j, j < i → xa_blockOf u j = st_h (st_s (xa_kinds u) j))
    (he : ∀ o, o < i → (xa_elseOf u o = -1 ∧ ¬ st_el (xa_kinds u) o i) ∨ ∃ j, j < i ∧ xa_kinds u j = 3 ∧ (st_s (xa_kinds u) j).head? = some o ∧ xa_elseOf u o = nI j)
    (h1 : fm_ok (xa_kinds u) i → post 1) (h0 : ¬ fm_ok (xa_kinds u) i → post 0) : wpX_fitsInto post u (st_h (st_s (xa_kinds u) i)) (nI i) := by
  have ci : (nI i).toNatClampNeg = i := nI_clamp (by omega)
  cases e : st_s (xa_kinds u) i with
  | nil =>
    rw [fm_nil e] at h1 h0
    rw [ux_fitsInto]
    refine ⟨vp_in_nI (by omega) (by decide), nm_r (by rw [ci]) (br_t rfl (br_c h1 h0))⟩
  | cons o r =>
    rw [fm_cons e] at h1 h0
    have ho : o < i := (st_lt (K := xa_kinds u) (i := i) (b := o) (by rw [e]; exact List.mem_cons_self)).1
    have ec : (nI o).toNatClampNeg = o := nI_clamp (by omega)
    have sf : st_sec (xa_kinds u i) → ¬ xa_kinds u i = 0 → ¬ xa_kinds u i = 1 → xa_kinds u o = 6 → wpX_sectionFits (fun r_101 => (((r_101 = 0 → (post 0)) ∧ (¬ r_101 = 0 → (post 1))))) u (nI o) (nI i) := by
      intro hs k0 k1 k6
      refine xs_fits ho (by omega) hb (fun z => br_f (by decide) (h1 ⟨k0, Or.inr (Or.inl ⟨hs, k6, z.1, z.2⟩)⟩)) (fun z => br_t rfl (h0 ?_))
      rintro ⟨_, w | w | w⟩
      · exact k1 w
      · exact z ⟨w.2.2.1, w.2.2.2⟩
      · exact w.2.1 hs
    have f89 : ¬ st_sec (xa_kinds u i) → ¬ xa_kinds u i = 0 → ¬ xa_kinds u i = 1 → ¬ (xa_kinds u o = 6 ∧ o + 1 = i) → cx_fitsInto_89 post (nI o) (xa_kinds u i) u := by
      intro hs k0 k1 k6
      refine xf_89 n60 hi hb he e (fun z => h1 ⟨k0, Or.inr (Or.inr ⟨k1, hs, k6, z.1, z.2⟩)⟩) (fun z => h0 ?_)
      rintro ⟨_, w | w | w⟩
      · exact k1 w
      · exact hs w.1
      · exact z ⟨w.2.2.2.1, w.2.2.2.2⟩
    show wpX_fitsInto post u (nI o) (nI i)
    rw [ux_fitsInto]
    refine ⟨vp_in_nI (by omega) (by decide), nm_r (by rw [ci]) (br_f (ne_m1 (by omega)) (br_c (fun k0 => h0 (fun z => z.1 k0)) (fun k0 => br_c (fun k1 => h1 ⟨k0, Or.inl k1⟩) (fun k1 => ?_))))⟩
    refine xk_sec (fun hs => br_f (by decide) ⟨vp_in_nI (by omega) (by decide), ?_⟩) (fun hs => br_t rfl ⟨vp_in_nI (by omega) (by decide), ?_⟩)
    · rw [ec]
      refine br_c (fun k6 => sf hs k0 k1 k6) (fun k6 => h0 ?_)
      rintro ⟨_, w | w | w⟩
      · exact k1 w
      · exact k6 w.2.1
      · exact w.2.1 hs
    · rw [ec]
      have pm : nI i - 1 = nI (i - 1) := pk_sub (b := 1) (by omega)
      refine br_c (fun k6 => ?_) (fun k6 => f89 hs k0 k1 (fun z => k6 z.1))
      rw [pm, nI_eq (by omega) (by omega)]
      refine br_c (fun q => h0 ?_) (fun q => f89 hs k0 k1 (fun z => q (by omega)))
      rintro ⟨_, w | w | w⟩
      · exact k1 w
      · exact hs w.1
      · exact w.2.2.1 ⟨k6, by omega⟩
end
section
/-! X: the loop of the form -/
def fm_w (u : SX) (fc : Int32) (bo eo el fl : Nat → Int32) : SX := xs_functionLine (xs_elseOf (xs_endOf (xs_blockOf (xs_functionCount u fc) bo) eo) el) fl
theorem fm_n1 {u : SX} {fc : Int32} {bo eo el fl b e : Nat → Int32} : xs_elseOf (xs_blockOf (fm_w u fc bo eo el fl) b) e = fm_w u fc b eo e fl := Eq.trans (b := (xa_lineCount u, fc, xa_foundLine u, xa_state u, xa_time u, xa_endingPanic u, xa_outputCount u, xa_channelCount u, xa_goroutineCount u, xa_waitsBegun u, xa_running u, xa_queueLength u, xa_kinds u, xa_argA u, xa_argB u, xa_argC u, b, eo, e, fl, xa_surelySet u, xa_outputs u, xa_capacity u, xa_fill u, xa_closed u, xa_held u, xa_status u, xa_depth u, xa_waitOrder u, xa_waitUntil u, xa_queue u, xa_slotWish u, xa_slotLine u, xa_position u, xa_mode u, xa_panicOf u, xa_noteCount u, xa_noteFunction u, xa_noteValues u, xa_variables u)) rfl rfl
theorem fm_n2 {u : SX} {fc c : Int32} {bo eo el fl b e f : Nat → Int32} : xs_functionLine (xs_elseOf (xs_blockOf (xs_functionCount (fm_w u fc bo eo el fl) c) b) e) f = fm_w u c b eo e f := Eq.trans (b := (xa_lineCount u, c, xa_foundLine u, xa_state u, xa_time u, xa_endingPanic u, xa_outputCount u, xa_channelCount u, xa_goroutineCount u, xa_waitsBegun u, xa_running u, xa_queueLength u, xa_kinds u, xa_argA u, xa_argB u, xa_argC u, b, eo, e, f, xa_surelySet u, xa_outputs u, xa_capacity u, xa_fill u, xa_closed u, xa_held u, xa_status u, xa_depth u, xa_waitOrder u, xa_waitUntil u, xa_queue u, xa_slotWish u, xa_slotLine u, xa_position u, xa_mode u, xa_panicOf u, xa_noteCount u, xa_noteFunction u, xa_noteValues u, xa_variables u)) rfl rfl
theorem fm_n3 {u : SX} {fc : Int32} {bo eo el fl e : Nat → Int32} : xs_elseOf (fm_w u fc bo eo el fl) e = fm_w u fc bo eo e fl := Eq.trans (b := (xa_lineCount u, fc, xa_foundLine u, xa_state u, xa_time u, xa_endingPanic u, xa_outputCount u, xa_channelCount u, xa_goroutineCount u, xa_waitsBegun u, xa_running u, xa_queueLength u, xa_kinds u, xa_argA u, xa_argB u, xa_argC u, bo, eo, e, fl, xa_surelySet u, xa_outputs u, xa_capacity u, xa_fill u, xa_closed u, xa_held u, xa_status u, xa_depth u, xa_waitOrder u, xa_waitUntil u, xa_queue u, xa_slotWish u, xa_slotLine u, xa_position u, xa_mode u, xa_panicOf u, xa_noteCount u, xa_noteFunction u, xa_noteValues u, xa_variables u)) rfl rfl
theorem fm_n4 {u : SX} {fc : Int32} {bo eo el fl e : Nat → Int32} : xs_endOf (fm_w u fc bo eo el fl) e = fm_w u fc bo e el fl := Eq.trans (b := (xa_lineCount u, fc, xa_foundLine u, xa_state u, xa_time u, xa_endingPanic u, xa_outputCount u, xa_channelCount u, xa_goroutineCount u, xa_waitsBegun u, xa_running u, xa_queueLength u, xa_kinds u, xa_argA u, xa_argB u, xa_argC u, bo, e, el, fl, xa_surelySet u, xa_outputs u, xa_capacity u, xa_fill u, xa_closed u, xa_held u, xa_status u, xa_depth u, xa_waitOrder u, xa_waitUntil u, xa_queue u, xa_slotWish u, xa_slotLine u, xa_position u, xa_mode u, xa_panicOf u, xa_noteCount u, xa_noteFunction u, xa_noteValues u, xa_variables u)) rfl rfl
theorem fm_n0 {u : SX} {c : Int32} : xs_functionCount u c = fm_w u c (xa_blockOf u) (xa_endOf u) (xa_elseOf u) (xa_functionLine u) := Eq.trans (b := (xa_lineCount u, c, xa_foundLine u, xa_state u, xa_time u, xa_endingPanic u, xa_outputCount u, xa_channelCount u, xa_goroutineCount u, xa_waitsBegun u, xa_running u, xa_queueLength u, xa_kinds u, xa_argA u, xa_argB u, xa_argC u, xa_blockOf u, xa_endOf u, xa_elseOf u, xa_functionLine u, xa_surelySet u, xa_outputs u, xa_capacity u, xa_fill u, xa_closed u, xa_held u, xa_status u, xa_depth u, xa_waitOrder u, xa_waitUntil u, xa_queue u, xa_slotWish u, xa_slotLine u, xa_position u, xa_mode u, xa_panicOf u, xa_noteCount u, xa_noteFunction u, xa_noteValues u, xa_variables u)) rfl rfl
def fm_A (K : Nat → Int32) (i : Nat) (fc : Int32) (bo eo el fl : Nat → Int32) : Prop :=
  (∀ j, j < i → bo j = st_h (st_s K j)) ∧
  (∀ e, e < i → K e = 1 → ∀ o r, st_s K e = o :: r → eo o = nI e) ∧
  (∀ o, o < i → (el o = -1 ∧ ¬ st_el K o i) ∨ ∃ j, j < i ∧ K j = 3 ∧ (st_s K j).head? = some o ∧ el o = nI j) ∧
  (∀ j, j < i → K j = 0 → fl (st_f K j) = nI j) ∧
  fc = nI (st_f K i) ∧ 2 * st_f K i ≤ i + (if st_s K i = [] then 0 else 1)
theorem fm_F {K : Nat → Int32} {i : Nat} (h : fm_ok K i) : K i = 0 ↔ st_s K i = [] := by
  cases e : st_s K i with
  | nil => rw [fm_nil e] at h; simp [h]
  | cons o r => rw [fm_cons e] at h; simp [h.1]
theorem st_f_lt {K : Nat → Int32} {j : Nat} (h : K j = 0) : ∀ i, j < i → st_f K j < st_f K i := by
  intro i
  induction i with
  | zero => intro h; omega
  | succ i ih =>
    intro hi
    show _ < st_f K i + _
    by_cases e : j = i
    · subst e; rw [if_pos h]; omega
    · have := ih (by omega); omega
theorem st_f_le {K : Nat → Int32} {j : Nat} : ∀ i, j ≤ i → st_f K j ≤ st_f K i := by
  intro i
  induction i with
  | zero => intro h; rw [show j = 0 by omega]; exact Nat.le_refl _
  | succ i ih =>
    intro hi
    by_cases e : j = i + 1
    · rw [e]; exact Nat.le_refl _
    · have := ih (by omega)
      exact Nat.le_trans this (Nat.le_add_right _ _)
theorem fm_a1 {K bo : Nat → Int32} {i : Nat} (h : ∀ j, j < i → bo j = st_h (st_s K j)) : ∀ j, j < i + 1 → upd bo i (st_h (st_s K i)) j = st_h (st_s K j) := by
  intro j hj
  by_cases e : j = i
  · subst e; exact pk_us
  · rw [pk_un e]; exact h j (by omega)
theorem fm_a2 {K eo : Nat → Int32} {i : Nat} (h : ∀ e, e < i → K e = 1 → ∀ o r, st_s K e = o :: r → eo o = nI e) (h1 : ¬ K i = 1) : ∀ e, e < i + 1 → K e = 1 → ∀ o r, st_s K e = o :: r → eo o = nI e := by
  intro e he k1
  by_cases z : e = i
  · subst z; exact absurd k1 h1
  · exact h e (by omega) k1
theorem fm_a2' {K eo : Nat → Int32} {i o : Nat} {r : List Nat} (F : st_F K (i + 1)) (h : ∀ e, e < i → K e = 1 → ∀ o r, st_s K e = o :: r → eo o = nI e) (h1 : K i = 1) (hs : st_s K i = o :: r) : ∀ e, e < i + 1 → K e = 1 → ∀ o' r', st_s K e = o' :: r' → upd eo o (nI i) o' = nI e := by
  intro e he k1 o' r' he'
  by_cases z : o' = o
  · subst z
    have := st_uniq F he k1 he' (Nat.lt_succ_self i) h1 hs
    subst this
    exact pk_us
  · rw [pk_un z]
    have : e ≠ i := by
      intro w
      subst w
      rw [hs] at he'
      injection he' with a b
      exact z a.symm
    exact h e (by omega) k1 o' r' he'
theorem st_el_s {K : Nat → Int32} {o i : Nat} (h : ¬ st_el K o i) (h3 : ¬ (K i = 3 ∧ (st_s K i).head? = some o)) : ¬ st_el K o (i + 1) := by
  rintro ⟨j, a, b, c⟩
  by_cases e : j = i
  · subst e; exact h3 ⟨b, c⟩
  · exact h ⟨j, by omega, b, c⟩
theorem st_el_0 {K : Nat → Int32} {i : Nat} : ¬ st_el K i (i + 1) := by
  rintro ⟨j, a, b, c⟩
  cases e : st_s K j with
  | nil => rw [e] at c; cases c
  | cons x t =>
    rw [e] at c
    have : x = i := by simpa using c
    have := (st_lt (K := K) (i := j) (b := x) (by rw [e]; exact List.mem_cons_self)).1
    omega
theorem fm_a3 {K el : Nat → Int32} {i : Nat} (h : ∀ o, o < i → (el o = -1 ∧ ¬ st_el K o i) ∨ ∃ j, j < i ∧ K j = 3 ∧ (st_s K j).head? = some o ∧ el o = nI j) (h3 : ¬ K i = 3) :
    ∀ o, o < i + 1 → (upd el i (-1) o = -1 ∧ ¬ st_el K o (i + 1)) ∨ ∃ j, j < i + 1 ∧ K j = 3 ∧ (st_s K j).head? = some o ∧ upd el i (-1) o = nI j := by
  intro o ho
  by_cases e : o = i
  · subst e; exact Or.inl ⟨pk_us, st_el_0⟩
  · rw [pk_un e]
    rcases h o (by omega) with ⟨a, b⟩ | ⟨j, a, b, c, d⟩
    · exact Or.inl ⟨a, st_el_s b (fun z => h3 z.1)⟩
    · exact Or.inr ⟨j, by omega, b, c, d⟩
theorem fm_a3' {K el : Nat → Int32} {i q : Nat} {r : List Nat} (h : ∀ o, o < i → (el o = -1 ∧ ¬ st_el K o i) ∨ ∃ j, j < i ∧ K j = 3 ∧ (st_s K j).head? = some o ∧ el o = nI j) (h3 : K i = 3) (hs : st_s K i = q :: r) :
    ∀ o, o < i + 1 → (upd (upd el i (-1)) q (nI i) o = -1 ∧ ¬ st_el K o (i + 1)) ∨ ∃ j, j < i + 1 ∧ K j = 3 ∧ (st_s K j).head? = some o ∧ upd (upd el i (-1)) q (nI i) o = nI j := by
  intro o ho
  by_cases e : o = q
  · subst e; exact Or.inr ⟨i, by omega, h3, by rw [hs]; rfl, pk_us⟩
  · rw [pk_un e]
    by_cases e2 : o = i
    · subst e2; exact Or.inl ⟨pk_us, st_el_0⟩
    · rw [pk_un e2]
      rcases h o (by omega) with ⟨a, b⟩ | ⟨j, a, b, c, d⟩
      · refine Or.inl ⟨a, st_el_s b (fun z => ?_)⟩
        have := z.2
        rw [hs] at this
        exact e (by simpa using this.symm)
      · exact Or.inr ⟨j, by omega, b, c, d⟩
theorem fm_a4 {K fl : Nat → Int32} {i : Nat} (h : ∀ j, j < i → K j = 0 → fl (st_f K j) = nI j) (h0 : ¬ K i = 0) : ∀ j, j < i + 1 → K j = 0 → fl (st_f K j) = nI j := by
  intro j hj k0
  by_cases e : j = i
  · subst e; exact absurd k0 h0
  · exact h j (by omega) k0
theorem fm_a4' {K fl : Nat → Int32} {i : Nat} (h : ∀ j, j < i → K j = 0 → fl (st_f K j) = nI j) : ∀ j, j < i + 1 → K j = 0 → upd fl (st_f K i) (nI i) (st_f K j) = nI j := by
  intro j hj k0
  by_cases e : j = i
  · subst e; exact pk_us
  · have := st_f_lt k0 i (by omega)
    rw [pk_un (by omega)]
    exact h j (by omega) k0
theorem fm_f0 {K : Nat → Int32} {i : Nat} (h0 : ¬ K i = 0) : st_f K (i + 1) = st_f K i := by
  show st_f K i + _ = _
  rw [if_neg h0]; rfl
theorem fm_f1 {K : Nat → Int32} {i : Nat} (h0 : K i = 0) : st_f K (i + 1) = st_f K i + 1 := by
  show st_f K i + _ = _
  rw [if_pos h0]
theorem fm_a6 {K : Nat → Int32} {i : Nat} (h0 : ¬ K i = 0) (F : K i = 0 ↔ st_s K i = []) (h : 2 * st_f K i ≤ i + (if st_s K i = [] then 0 else 1)) : 2 * st_f K (i + 1) ≤ i + 1 + (if st_s K (i + 1) = [] then 0 else 1) := by
  rw [fm_f0 h0]
  rw [if_neg (fun z => h0 (F.mpr z))] at h
  split <;> omega
theorem xj_104 {post : Int32 → SX → Prop} {J : Int32 → Int32 → SX → Prop} {u : SX} {x1 k : Int32} {i : Nat} (h1 : st_op k → J (nI i) (nI (i + 1)) u) (h0 : ¬ st_op k → J x1 (nI (i + 1)) u) : cx_formFault_104 post J x1 (nI i) k u := by
  rw [ux_formFault_104]
  exact br_c (fun a => nm_r (nI_1 _) (h1 (Or.inl a))) (fun a => br_c (fun b => nm_r (nI_1 _) (h1 (Or.inr (Or.inl b)))) (fun b => br_c (fun c => nm_r (nI_1 _) (h1 (Or.inr (Or.inr (Or.inl c)))))
    (fun c => br_c (fun d => nm_r (nI_1 _) (h1 (Or.inr (Or.inr (Or.inr d))))) (fun d => nm_r (nI_1 _) (h0 (fun z => z.elim a (fun z => z.elim b (fun z => z.elim c d))))))))
theorem xf_loop {post : Int32 → SX → Prop} {u : SX} {n : Nat} (hn : xa_lineCount u = nI n) (n60 : n ≤ 60)
    (hp : ∀ r fc bo eo el fl, fm_res (xa_kinds u) n r → (r = -1 → fm_A (xa_kinds u) n fc bo eo el fl) → post r (fm_w u fc bo eo el fl)) :
    ∀ d i fc bo eo el fl, i + d = n → (∀ j, j < i → fm_ok (xa_kinds u) j) → fm_A (xa_kinds u) i fc bo eo el fl → ∀ m, d < m → cx_formFault_9 post m (st_h (st_s (xa_kinds u) i)) (nI i) (fm_w u fc bo eo el fl) := by
  intro d
  induction d with
  | zero =>
    intro i fc bo eo el fl hi hok hA m hm
    obtain ⟨m, rfl⟩ : ∃ q, m = q + 1 := ⟨m - 1, by omega⟩
    have e : i = n := by omega
    subst e
    rw [ux_formFault_9]
    have hl : xa_lineCount (fm_w u fc bo eo el fl) = nI i := hn
    rw [hl]
    refine br_t (nI_le (Nat.le_refl _) (by omega)) ?_
    cases e2 : st_s (xa_kinds u) i with
    | nil =>
      refine br_t rfl ?_
      by_cases z : i = 0
      · exact br_t (by rw [z]; decide) (hp _ _ _ _ _ _ (Or.inr ⟨hok, Or.inr ⟨fun w => by omega, rfl⟩⟩) (fun w => absurd w (ne_m1 (by omega))))
      · exact br_f (nI_nle (by omega) (by omega)) (hp _ _ _ _ _ _ (Or.inr ⟨hok, Or.inl ⟨e2, by omega, rfl⟩⟩) (fun _ => hA))
    | cons o r =>
      have ho := (st_lt (K := xa_kinds u) (i := i) (b := o) (by rw [e2]; exact List.mem_cons_self)).1
      exact br_f (ne_m1 (by omega)) (hp _ _ _ _ _ _ (Or.inr ⟨hok, Or.inr ⟨fun w => absurd (e2.symm.trans w.1) (List.cons_ne_nil _ _), rfl⟩⟩) (fun w => absurd w (ne_m1 (by omega))))
  | succ d ih =>
    intro i fc bo eo el fl hi hok hA m hm
    obtain ⟨m, rfl⟩ : ∃ q, m = q + 1 := ⟨m - 1, by omega⟩
    obtain ⟨A1, A2, A3, A4, A5, A6⟩ := hA
    have ci : (nI i).toNatClampNeg = i := nI_clamp (by omega)
    rw [ux_formFault_9]
    have hl : xa_lineCount (fm_w u fc bo eo el fl) = nI n := hn
    rw [hl]
    refine br_f (nI_ge (by omega) (by omega)) (xf_fits (u := fm_w u fc bo eo el fl) n60 (by omega) A1 A3 (fun ok => br_f (by decide) ?_) (fun nok => br_t rfl ?_))
    · have ok : fm_ok (xa_kinds u) i := ok
      have F := fm_F ok
      have FF : st_F (xa_kinds u) (i + 1) := fun j hj => by
        by_cases z : j = i
        · subst z; exact F
        · exact fm_F (hok j (by omega))
      have hok' : ∀ j, j < i + 1 → fm_ok (xa_kinds u) j := fun j hj => by
        by_cases z : j = i
        · subst z; exact ok
        · exact hok j (by omega)
      refine ⟨vp_in_nI (by omega) (by decide), nm_r (show _ = xa_kinds u i by rw [ci]; rfl) ⟨vp_in_nI (by omega) (by decide), nm_r (show _ = upd bo i (st_h (st_s (xa_kinds u) i)) by rw [ci]; rfl) ⟨vp_in_nI (by omega) (by decide), nm_r (show _ = upd el i (-1) by rw [ci]; rfl) ?_⟩⟩⟩
      by_cases k0 : xa_kinds u i = 0
      · have s0 := F.mp k0
        rw [s0] at A6
        have fb : st_f (xa_kinds u) i < 30 := by simp at A6; omega
        have efc : xa_functionCount (fm_w u fc bo eo el fl) = nI (st_f (xa_kinds u) i) := A5
        refine br_t k0 ?_
        rw [efc]
        refine ⟨vp_in_nI fb (by decide), nm_r (show _ = upd fl (st_f (xa_kinds u) i) (nI i) by rw [nI_clamp (by omega)]; rfl) (nm_r (nI_1 _) ?_)⟩
        rw [fm_n2, ux_formFault_73]
        refine br_f (by rw [k0]; decide) ?_
        rw [ux_formFault_85]
        refine br_f (by rw [k0]; decide) (xj_104 (fun _ => ?_) (fun w => absurd (Or.inl k0) w))
        have key := ih (i + 1) (nI (st_f (xa_kinds u) i + 1)) (upd bo i (st_h (st_s (xa_kinds u) i))) eo (upd el i (-1)) (upd fl (st_f (xa_kinds u) i) (nI i)) (by omega) hok'
          ⟨fm_a1 A1, fm_a2 A2 (by rw [k0]; decide), fm_a3 A3 (by rw [k0]; decide), fm_a4' A4, by rw [fm_f1 k0], by rw [fm_f1 k0, st_opn (Or.inl k0)]; simp at A6 ⊢; omega⟩ m (by omega)
        rw [st_opn (Or.inl k0)] at key
        exact key
      · refine br_f k0 ?_
        rw [fm_n1]
        cases e2 : st_s (xa_kinds u) i with
        | nil => exact absurd (F.mpr e2) k0
        | cons o r =>
          have ho := (st_lt (K := xa_kinds u) (i := i) (b := o) (by rw [e2]; exact List.mem_cons_self)).1
          have co : (nI o).toNatClampNeg = o := nI_clamp (by omega)
          have B1 := fm_a1 A1
          rw [e2] at B1
          show cx_formFault_73 post _ (nI o) (nI i) (xa_kinds u i) (fm_w u fc (upd bo i (nI o)) eo (upd el i (-1)) fl)
          by_cases k3 : xa_kinds u i = 3
          · rw [ux_formFault_73]
            refine br_t k3 ⟨vp_in_nI (by omega) (by decide), nm_r (show _ = upd (upd el i (-1)) o (nI i) by rw [co]; rfl) ?_⟩
            rw [fm_n3, ux_formFault_85]
            have n1 : ¬ xa_kinds u i = 1 := by rw [k3]; decide
            have nop : ¬ st_op (xa_kinds u i) := by rw [k3]; decide
            refine br_f n1 (xj_104 (fun w => absurd w nop) (fun _ => ?_))
            have key := ih (i + 1) fc (upd bo i (nI o)) eo (upd (upd el i (-1)) o (nI i)) fl (by omega) hok'
              ⟨B1, fm_a2 A2 n1, fm_a3' A3 k3 e2, fm_a4 A4 k0, by rw [fm_f0 k0]; exact A5, fm_a6 k0 F A6⟩ m (by omega)
            rw [st_oth n1 nop, e2] at key
            exact key
          · rw [ux_formFault_73]
            refine br_f k3 ?_
            rw [ux_formFault_85]
            by_cases k1 : xa_kinds u i = 1
            · refine br_t k1 ⟨vp_in_nI (by omega) (by decide), nm_r (show _ = upd eo o (nI i) by rw [co]; rfl) ⟨vp_in_nI (by omega) (by decide), nm_r (show _ = st_h r from ?_) ?_⟩⟩
              · rw [co]
                show upd bo i (nI o) o = _
                rw [pk_un (by omega), A1 o ho, st_hd e2]
              · rw [fm_n4]
                have nop : ¬ st_op (xa_kinds u i) := by rw [k1]; decide
                refine xj_104 (fun w => absurd w nop) (fun _ => ?_)
                have key := ih (i + 1) fc (upd bo i (nI o)) (upd eo o (nI i)) (upd el i (-1)) fl (by omega) hok'
                  ⟨B1, fm_a2' FF A2 k1 e2, fm_a3 A3 k3, fm_a4 A4 k0, by rw [fm_f0 k0]; exact A5, fm_a6 k0 F A6⟩ m (by omega)
                rw [st_end k1, e2] at key
                exact key
            · refine br_f k1 ?_
              have hA' : fm_A (xa_kinds u) (i + 1) fc (upd bo i (nI o)) eo (upd el i (-1)) fl := ⟨B1, fm_a2 A2 k1, fm_a3 A3 k3, fm_a4 A4 k0, by rw [fm_f0 k0]; exact A5, fm_a6 k0 F A6⟩
              have key := ih (i + 1) fc (upd bo i (nI o)) eo (upd el i (-1)) fl (by omega) hok' hA' m (by omega)
              refine xj_104 (fun w => ?_) (fun w => ?_)
              · rw [st_opn w] at key
                exact key
              · rw [st_oth k1 w, e2] at key
                exact key
    · exact hp _ _ _ _ _ _ (Or.inl ⟨i, by omega, hok, nok, rfl⟩) (fun w => absurd w (ne_m1 (by omega)))
theorem xf_form {post : Int32 → SX → Prop} {u : SX} {n : Nat} (hn : xa_lineCount u = nI n) (n60 : n ≤ 60)
    (hp : ∀ r fc bo eo el fl, fm_res (xa_kinds u) n r → (r = -1 → fm_A (xa_kinds u) n fc bo eo el fl) → post r (fm_w u fc bo eo el fl)) : wpX_formFault post u := by
  rw [ux_formFault, fm_n0]
  have key := xf_loop hn n60 hp n 0 (nI 0) (xa_blockOf u) (xa_endOf u) (xa_elseOf u) (xa_functionLine u) (by omega) (fun j hj => by omega)
    ⟨fun j hj => by omega, fun j hj => by omega, fun j hj => by omega, fun j hj => by omega, rfl, by show 2 * 0 ≤ _; omega⟩ (n + 1) (by omega)
  exact ⟨_, key⟩
end
section
/-! Y: the loop of the form -/
def st_pe (k : Int32) : Bool := k == 3
theorem st_pe_iff {k : Int32} : st_pe k = true ↔ k = 3 := by simp [st_pe]
theorem xn_el {K : Nat → Int32} {o : Nat} : ∀ i, st_n K st_pe o i = 0 ↔ ¬ st_el K o i := by
  intro i
  induction i with
  | zero => exact ⟨fun _ z => by obtain ⟨j, a, _⟩ := z; omega, fun _ => rfl⟩
  | succ i ih =>
    rw [xn_cnt]
    by_cases c : (st_s K i).head? = some o ∧ st_pe (K i) = true
    · rw [if_pos c]
      exact ⟨fun z => by omega, fun z => absurd ⟨i, Nat.lt_succ_self i, st_pe_iff.mp c.2, c.1⟩ z⟩
    · rw [if_neg c, Nat.add_zero, ih]
      exact ⟨fun z => st_el_s z (fun w => c ⟨w.2, st_pe_iff.mpr w.1⟩), fun z w => by obtain ⟨j, a, b⟩ := w; exact z ⟨j, by omega, b⟩⟩
def fm_sv (c a : Nat) : Nat := if c + a = 0 then 0 else 1 + c + 8 * a
def fm_seen (K : Nat → Int32) (b i : Nat) : Nat := if K b = 2 then st_n K st_pe b i else if K b = 6 then fm_sv (st_n K st_pc b i) (st_n K st_pa b i) else 0
theorem fm_bnd {K : Nat → Int32} {o : Nat} : ∀ i, (∀ j, j < i → fm_ok K j) → st_n K st_pc o i ≤ 3 ∧ st_n K st_pa o i ≤ 1 ∧ st_n K st_pe o i ≤ 1 := by
  intro i
  induction i with
  | zero => intro _; exact ⟨Nat.zero_le _, Nat.zero_le _, Nat.zero_le _⟩
  | succ i ih =>
    intro h
    obtain ⟨a, b, c⟩ := ih (fun j hj => h j (by omega))
    have ok := h i (Nat.lt_succ_self i)
    rw [xn_cnt, xn_cnt, xn_cnt]
    by_cases hh : (st_s K i).head? = some o
    · cases e : st_s K i with
      | nil => rw [e] at hh; cases hh
      | cons x t =>
        rw [e] at hh
        have hx : x = o := by simpa using hh
        subst hx
        rw [fm_cons e] at ok
        obtain ⟨k0, ok⟩ := ok
        refine ⟨?_, ?_, ?_⟩
        · by_cases q : st_pc (K i) = true
          · have s : st_sec (K i) := sec_or.mpr (Or.inl q)
            rcases ok with w | w | w
            · rw [w] at s; exact absurd s (by decide)
            · have := w.2.2.1 q; split <;> omega
            · exact absurd s w.2.1
          · rw [if_neg (fun z => q z.2)]; omega
        · by_cases q : st_pa (K i) = true
          · have s : st_sec (K i) := sec_or.mpr (Or.inr q)
            rcases ok with w | w | w
            · rw [w] at s; exact absurd s (by decide)
            · have := w.2.2.2 (by rw [st_pa_iff] at q; rcases q with q | q <;> (rw [q]; rfl)); split <;> omega
            · exact absurd s w.2.1
          · rw [if_neg (fun z => q z.2)]; omega
        · by_cases q : st_pe (K i) = true
          · have q3 := st_pe_iff.mp q
            rcases ok with w | w | w
            · rw [q3] at w; exact absurd w (by decide)
            · rw [q3] at w; exact absurd w.1 (by decide)
            · have := (xn_el i).mpr (w.2.2.2.1 q3).2
              split <;> omega
          · rw [if_neg (fun z => q z.2)]; omega
    · rw [if_neg (fun z => hh z.1), if_neg (fun z => hh z.1), if_neg (fun z => hh z.1)]
      exact ⟨a, b, c⟩
theorem fm_seen_le {K : Nat → Int32} {o i : Nat} (h : ∀ j, j < i → fm_ok K j) : fm_seen K o i ≤ 12 := by
  obtain ⟨a, b, c⟩ := fm_bnd (o := o) i h
  unfold fm_seen fm_sv
  split
  · omega
  · split
    · split <;> omega
    · omega
theorem fm_seen_s {K : Nat → Int32} {b i : Nat} (h : ¬ ((st_s K i).head? = some b ∧ (K i = 3 ∨ st_sec (K i)))) : fm_seen K b (i + 1) = fm_seen K b i := by
  have e1 : st_n K st_pe b (i + 1) = st_n K st_pe b i := by rw [xn_cnt, if_neg (fun z => h ⟨z.1, Or.inl (st_pe_iff.mp z.2)⟩)]; rfl
  have e2 : st_n K st_pc b (i + 1) = st_n K st_pc b i := by rw [xn_cnt, if_neg (fun z => h ⟨z.1, Or.inr (sec_or.mpr (Or.inl z.2))⟩)]; rfl
  have e3 : st_n K st_pa b (i + 1) = st_n K st_pa b i := by rw [xn_cnt, if_neg (fun z => h ⟨z.1, Or.inr (sec_or.mpr (Or.inr z.2))⟩)]; rfl
  unfold fm_seen
  rw [e1, e2, e3]
theorem fm_seen_0 {K : Nat → Int32} {i : Nat} : fm_seen K i (i + 1) = 0 := by
  unfold fm_seen
  rw [xn_0 (i + 1) (Nat.le_refl _), xn_0 (i + 1) (Nat.le_refl _), xn_0 (i + 1) (Nat.le_refl _)]
  unfold fm_sv
  split
  · rfl
  · split <;> rfl
theorem fs_and : ∀ c, c < 4 → ∀ a, a < 2 → ((nI (fm_sv c a) &&& 7) ≤ 3 ↔ c < 3) := by decide
theorem fs_lt : ∀ c, c < 4 → ∀ a, a < 2 → (nI (fm_sv c a) < 8 ↔ a < 1) := by decide
theorem fs_0 : ∀ c, c < 4 → ∀ a, a < 2 → (nI (fm_sv c a) = 0 ↔ c + a = 0) := by decide
theorem fs_c1 : ∀ c, c < 3 → ∀ a, a < 2 → ¬ c + a = 0 → vp_nar .byte ((nI (fm_sv c a) + 1).toInt8.toInt32) = nI (fm_sv (c + 1) a) := by decide
theorem fs_a1 : ∀ c, c < 4 → ∀ a, a < 1 → ¬ c + a = 0 → vp_nar .byte ((nI (fm_sv c a) + 8).toInt8.toInt32) = nI (fm_sv c (a + 1)) := by decide
theorem nb_8 : ∀ i, i < 60 → vp_nar .byte ((nI i).toInt8.toInt32) = nI i := by decide
def fm_stk (op sn : Nat → Int32) (K : Nat → Int32) (i : Nat) : List Nat → Prop
  | [] => True
  | b :: r => op r.length = nI b ∧ sn r.length = nI (fm_seen K b i) ∧ fm_stk op sn K i r
theorem fm_stk_i {op sn K : Nat → Int32} {i : Nat} : ∀ {L : List Nat}, (∀ b, b ∈ L → fm_seen K b (i + 1) = fm_seen K b i) → fm_stk op sn K i L → fm_stk op sn K (i + 1) L := by
  intro L
  induction L with
  | nil => intro _ h; exact h
  | cons b r ih =>
    intro h hs
    exact ⟨hs.1, by rw [h b List.mem_cons_self]; exact hs.2.1, ih (fun x hx => h x (List.mem_cons_of_mem _ hx)) hs.2.2⟩
theorem fm_stk_u {op sn K : Nat → Int32} {i m : Nat} {x y : Int32} : ∀ {L : List Nat}, L.length ≤ m → fm_stk op sn K i L → fm_stk (upd op m x) (upd sn m y) K i L := by
  intro L
  induction L with
  | nil => intro _ h; exact h
  | cons b r ih =>
    intro h hs
    rw [List.length_cons] at h
    exact ⟨by rw [pk_un (by omega)]; exact hs.1, by rw [pk_un (by omega)]; exact hs.2.1, ih (by omega) hs.2.2⟩
theorem fm_stk_n {op sn K : Nat → Int32} {i m : Nat} {y : Int32} : ∀ {L : List Nat}, L.length ≤ m → fm_stk op sn K i L → fm_stk op (upd sn m y) K i L := by
  intro L
  induction L with
  | nil => intro _ h; exact h
  | cons b r ih =>
    intro h hs
    rw [List.length_cons] at h
    exact ⟨hs.1, by rw [pk_un (by omega)]; exact hs.2.1, ih (by omega) hs.2.2⟩
theorem fm_stk_1 {op sn K : Nat → Int32} {i : Nat} : ∀ {L : List Nat}, fm_stk op sn K i L → ∀ t, t < L.length → ∃ b, b ∈ L ∧ op t = nI b := by
  intro L
  induction L with
  | nil => intro _ t h; cases h
  | cons b r ih =>
    intro hs t ht
    rw [List.length_cons] at ht
    by_cases e : t = r.length
    · subst e; exact ⟨b, List.mem_cons_self, hs.1⟩
    · obtain ⟨x, a, c⟩ := ih hs.2.2 t (by omega)
      exact ⟨x, List.mem_cons_of_mem _ a, c⟩
theorem fm_stk_2 {op sn K : Nat → Int32} {i : Nat} : ∀ {L : List Nat}, fm_stk op sn K i L → ∀ b, b ∈ L → ∃ t, t < L.length ∧ op t = nI b := by
  intro L
  induction L with
  | nil => intro _ b h; cases h
  | cons x r ih =>
    intro hs b hb
    rw [List.length_cons]
    rcases List.mem_cons.mp hb with e | h
    · subst e; exact ⟨r.length, by omega, hs.1⟩
    · obtain ⟨t, a, c⟩ := ih hs.2.2 b h
      exact ⟨t, by omega, c⟩
theorem yb_loop {post : Int32 → SY → Prop} {J : Int32 → Int32 → SY → Prop} {v : SY} {S : List Nat} {i : Nat} (hi : i < 60) (hS : S.length ≤ 60) (hb : ∀ b, b ∈ S → b < 60)
    (H1 : ∀ t, t < S.length → ∃ b, b ∈ S ∧ ya_open v t = nI b) (H2 : ∀ b, b ∈ S → ∃ t, t < S.length ∧ ya_open v t = nI b)
    (h1 : (∃ b, b ∈ S ∧ ya_kind v b = 4) → J (nI S.length) (nI (i + 1)) v) (h0 : ¬ (∃ b, b ∈ S ∧ ya_kind v b = 4) → post (nI i) v) :
    ∀ d t f, t + d = S.length → ((f = 0 ∧ ∀ q, q < t → ∀ b, ya_open v q = nI b → b < 60 → ¬ ya_kind v b = 4) ∨ (f = 1 ∧ ∃ b, b ∈ S ∧ ya_kind v b = 4)) → ∀ m, d < m → cy_form_240 post J (nI S.length) (nI i) v m f (nI t) := by
  intro d
  induction d with
  | zero =>
    intro t f ht hf m hm
    obtain ⟨m, rfl⟩ : ∃ q, m = q + 1 := ⟨m - 1, by omega⟩
    rw [uy_form_240]
    refine br_t (nI_le (by omega) (by omega)) ?_
    rcases hf with ⟨e, h⟩ | ⟨e, h⟩
    · refine br_t e (h0 ?_)
      rintro ⟨b, hb1, k4⟩
      obtain ⟨q, hq, eq⟩ := H2 b hb1
      exact h q (by omega) b eq (hb b hb1) k4
    · exact br_f (by rw [e]; decide) (nm_r (nI_1 _) (h1 h))
  | succ d ih =>
    intro t f ht hf m hm
    obtain ⟨m, rfl⟩ : ∃ q, m = q + 1 := ⟨m - 1, by omega⟩
    rw [uy_form_240]
    obtain ⟨b, hb1, eb⟩ := H1 t (by omega)
    have b60 := hb b hb1
    refine br_f (nI_ge (by omega) (by omega)) ⟨vp_in_nI (by omega) (by decide), ?_⟩
    rw [nI_clamp (by omega), eb]
    refine ⟨vp_in_nI b60 (by decide), ?_⟩
    rw [nI_clamp (by omega)]
    refine br_c (fun k4 => nm_r (nI_1 _) (ih (t + 1) 1 (by omega) (Or.inr ⟨rfl, b, hb1, k4⟩) m (by omega))) (fun k4 => nm_r (nI_1 _) (ih (t + 1) f (by omega) ?_ m (by omega)))
    rcases hf with ⟨e, h⟩ | ⟨e, h⟩
    · refine Or.inl ⟨e, fun q hq b' eq' hb' => ?_⟩
      by_cases z : q = t
      · subst z
        rw [eb] at eq'
        rw [← (nI_eq (by omega) (by omega)).mp eq']
        exact k4
      · exact h q (by omega) b' eq' hb'
    · exact Or.inr ⟨e, h⟩
def fm_v (v : SY) (op sn : Nat → Int32) : SY := ys_seen (ys_open v op) sn
theorem fv_1 {v : SY} {op sn s : Nat → Int32} : ys_seen (fm_v v op sn) s = fm_v v op s := Eq.trans (b := (ya_lines v, ya_bad v, ya_state v, ya_queued v, ya_started v, ya_now v, ya_clock v, ya_turn v, ya_off v, ya_made v, ya_printed v, ya_panicValue v, ya_kind v, ya_opA v, ya_opB v, ya_opC v, op, s, ya_unset v, ya_status v, ya_depth v, ya_since v, ya_resume v, ya_shocked v, ya_queue v, ya_until v, ya_channels v, ya_pc v, ya_vars v, ya_noted v, ya_noteOf v, ya_noteB v, ya_noteC v, ya_asNote v, ya_panics v, ya_panicWith v, ya_capacity v, ya_held v, ya_closed v, ya_values v, ya_out v)) rfl rfl
theorem fv_2 {v : SY} {op sn o s : Nat → Int32} : ys_seen (ys_open (fm_v v op sn) o) s = fm_v v o s := Eq.trans (b := (ya_lines v, ya_bad v, ya_state v, ya_queued v, ya_started v, ya_now v, ya_clock v, ya_turn v, ya_off v, ya_made v, ya_printed v, ya_panicValue v, ya_kind v, ya_opA v, ya_opB v, ya_opC v, o, s, ya_unset v, ya_status v, ya_depth v, ya_since v, ya_resume v, ya_shocked v, ya_queue v, ya_until v, ya_channels v, ya_pc v, ya_vars v, ya_noted v, ya_noteOf v, ya_noteB v, ya_noteC v, ya_asNote v, ya_panics v, ya_panicWith v, ya_capacity v, ya_held v, ya_closed v, ya_values v, ya_out v)) rfl rfl
theorem fv_0 {v : SY} : v = fm_v v (ya_open v) (ya_seen v) := rfl
/-- a SELECT's first line is a section or its END: then no section is seen only right behind the SELECT -/
theorem fm_first {K : Nat → Int32} {i o : Nat} {r : List Nat} (h : ∀ j, j < i → fm_ok K j) (e : st_s K i = o :: r) (k6 : K o = 6) : fm_sv (st_n K st_pc o i) (st_n K st_pa o i) = 0 ↔ o + 1 = i := by
  have ho := (st_lt (K := K) (i := i) (b := o) (by rw [e]; exact List.mem_cons_self)).1
  constructor
  · intro z
    by_cases q : o + 1 = i
    · exact q
    · exfalso
      have e1 : st_s K (o + 1) = o :: st_s K o := st_opn (Or.inr (Or.inr (Or.inr k6)))
      have ok := h (o + 1) (by omega)
      rw [fm_cons e1] at ok
      have n1 : ¬ K (o + 1) = 1 := by
        intro k1
        have FF : st_F K i := fun j hj => fm_F (h j hj)
        obtain ⟨l, hl⟩ := st_back (st_F1 FF) (j := i) (l := []) (Nat.le_refl i) e (o + 1 + 1) (by omega) (by omega)
        rw [st_end k1, e1, ← st_hd e] at hl
        exact st_nlen hl
      have sec : st_sec (K (o + 1)) := by
        rcases ok.2 with w | w | w
        · exact absurd w n1
        · exact w.1
        · exact absurd ⟨k6, rfl⟩ w.2.2.1
      have mono : ∀ (P : Int32 → Bool) m, o + 2 ≤ m → st_n K P o (o + 2) ≤ st_n K P o m := by
        intro P m
        induction m with
        | zero => intro h; omega
        | succ m ih =>
          intro hm
          by_cases w : m + 1 = o + 2
          · rw [w]; exact Nat.le_refl _
          · have := ih (by omega)
            rw [xn_cnt (i := m)]; omega
      have hh : (st_s K (o + 1)).head? = some o := by rw [e1]; rfl
      have mc := mono st_pc i (by omega)
      have ma := mono st_pa i (by omega)
      rw [xn_cnt (i := o + 1)] at mc ma
      have : 1 ≤ st_n K st_pc o i + st_n K st_pa o i := by
        rcases sec_or.mp sec with p | p
        · rw [if_pos ⟨hh, p⟩] at mc; omega
        · rw [if_pos ⟨hh, p⟩] at ma; omega
      unfold fm_sv at z
      rw [if_neg (by omega)] at z
      omega
  · intro q
    rw [← q, xn_0 (o + 1) (Nat.le_refl _), xn_0 (o + 1) (Nat.le_refl _)]
    rfl
theorem yj_312 {post : Int32 → SY → Prop} {J : Int32 → Int32 → SY → Prop} {v : SY} {op sn : Nat → Int32} {t i : Nat} (ht : t < 60) (hi : i < 60)
    (h : J (nI (t + 1)) (nI (i + 1)) (fm_v v (upd op t (nI i)) (upd sn t (nI 0)))) : cy_form_312 post J (nI t) (nI i) (fm_v v op sn) := by
  rw [uy_form_312]
  have ct : (nI t).toNatClampNeg = t := nI_clamp (by omega)
  refine ⟨vp_in_nI ht (by decide), nm_r (show _ = upd op t (nI i) by rw [ct, nb_8 i hi]; rfl) (nm_r (nI_1 _) ⟨vp_in_nI ht (by decide), nm_r (show _ = upd sn t (nI 0) by rw [ct]; rfl) (nm_r (nI_1 _) ?_)⟩)⟩
  rw [fv_2]
  exact h
theorem yj_180 {post : Int32 → SY → Prop} {J : Int32 → Int32 → SY → Prop} {v : SY} {op sn : Nat → Int32} {t i c a : Nat} {k : Int32} (ht : t < 60) (hi : i < 60) (hc : c < 4) (ha : a < 2) (hs : st_sec k)
    (h1 : st_pc k = true → c < 3 ∧ J (nI (t + 1)) (nI (i + 1)) (fm_v v op (upd sn t (nI (fm_sv (c + 1) a))))) (h0 : st_pc k = false → a < 1 ∧ J (nI (t + 1)) (nI (i + 1)) (fm_v v op (upd sn t (nI (fm_sv c (a + 1)))))) :
    cy_form_180 post J (nI (t + 1)) (nI i) k (nI (fm_sv c a)) (fm_v v op sn) := by
  rw [uy_form_180]
  have pm : nI (t + 1) - 1 = nI t := nI_pred t
  have ct : (nI t).toNatClampNeg = t := nI_clamp (by omega)
  rw [pm]
  have hk : (st_pc k = true ∧ k < 9) ∨ (st_pc k = false ∧ ¬ k < 9) := by rcases hs with h | h | h | h <;> (subst h; decide)
  rcases hk with ⟨p, q⟩ | ⟨p, q⟩
  · obtain ⟨h3, hJ⟩ := h1 p
    refine br_t q (br_c (fun z => ⟨vp_in_nI ht (by decide), nm_r (show _ = upd sn t (nI (fm_sv (c + 1) a)) from ?_) (nm_r (nI_1 _) ?_)⟩) (fun z => ⟨vp_in_nI ht (by decide), nm_r (show _ = upd sn t (nI (fm_sv (c + 1) a)) from ?_) (nm_r (nI_1 _) ?_)⟩))
    · have z' := (fs_0 c hc a ha).mp z
      have c0 : c = 0 := by omega
      have a0 : a = 0 := by omega
      subst c0 a0
      rw [ct]; rfl
    · rw [fv_1]; exact hJ
    · rw [ct, fs_c1 c h3 a ha (fun w => z ((fs_0 c hc a ha).mpr w))]; rfl
    · rw [fv_1]; exact hJ
  · obtain ⟨h3, hJ⟩ := h0 p
    refine br_f q (br_c (fun z => ⟨vp_in_nI ht (by decide), nm_r (show _ = upd sn t (nI (fm_sv c (a + 1))) from ?_) (nm_r (nI_1 _) ?_)⟩) (fun z => ⟨vp_in_nI ht (by decide), nm_r (show _ = upd sn t (nI (fm_sv c (a + 1))) from ?_) (nm_r (nI_1 _) ?_)⟩))
    · have z' := (fs_0 c hc a ha).mp z
      have c0 : c = 0 := by omega
      have a0 : a = 0 := by omega
      subst c0 a0
      rw [ct]; rfl
    · rw [fv_1]; exact hJ
    · rw [ct, fs_a1 c hc a h3 (fun w => z ((fs_0 c hc a ha).mpr w))]; rfl
    · rw [fv_1]; exact hJ
/-- a line in block o: what the 109th row asks -/
theorem yj_109 {post : Int32 → SY → Prop} {J : Int32 → Int32 → SY → Prop} {v : SY} {op sn : Nat → Int32} {i o : Nat} {r : List Nat} (hi : i < 60) (e : st_s (ya_kind v) i = o :: r) (hok : ∀ j, j < i → fm_ok (ya_kind v) j)
    (hs : fm_stk op sn (ya_kind v) i (o :: r)) (k0 : ¬ ya_kind v i = 0) (k6 : ¬ ya_kind v i = 1 → ¬ st_sec (ya_kind v i) → ¬ (ya_kind v o = 6 ∧ o + 1 = i))
    (h1 : fm_ok (ya_kind v) i → ∀ op sn, fm_stk op sn (ya_kind v) (i + 1) (st_s (ya_kind v) (i + 1)) → J (nI (st_s (ya_kind v) (i + 1)).length) (nI (i + 1)) (fm_v v op sn))
    (h0 : ¬ fm_ok (ya_kind v) i → post (nI i) (fm_v v op sn)) : cy_form_109 post J (nI (r.length + 1)) (nI i) (ya_kind v i) (ya_kind v o) (nI (fm_seen (ya_kind v) o i)) (fm_v v op sn) := by
  rw [fm_cons e] at h1 h0
  have lb := st_bnd (ya_kind v) i
  rw [e, List.length_cons] at lb
  have pm : nI (r.length + 1) - 1 = nI r.length := nI_pred _
  have cr : (nI r.length).toNatClampNeg = r.length := nI_clamp (by omega)
  obtain ⟨bc, ba, be⟩ := fm_bnd (o := o) i hok
  have ho : o < i := (st_lt (K := ya_kind v) (i := i) (b := o) (by rw [e]; exact List.mem_cons_self)).1
  have ur : ∀ b, b ∈ r → fm_seen (ya_kind v) b (i + 1) = fm_seen (ya_kind v) b i := by
    intro b hb
    refine fm_seen_s (fun z => ?_)
    have z1 := z.1
    rw [e] at z1
    have : o = b := by simpa using z1
    rw [← st_hd e] at hb
    have := (st_lt hb).1
    omega
  rw [uy_form_109]
  refine br_c (fun k3 => ?_) (fun k3 => ?_)
  · have n1 : ¬ ya_kind v i = 1 := by rw [k3]; decide
    have nop : ¬ st_op (ya_kind v i) := by rw [k3]; decide
    have nsec : ¬ st_sec (ya_kind v i) := by rw [k3]; decide
    refine br_c (fun k2 => ?_) (fun k2 => h0 ?_)
    · have se : fm_seen (ya_kind v) o i = st_n (ya_kind v) st_pe o i := by unfold fm_seen; rw [if_pos k2]
      rw [se]
      by_cases z : st_n (ya_kind v) st_pe o i = 0
      · rw [z]
        refine br_t rfl ?_
        rw [pm]
        refine ⟨vp_in_nI (by omega) (by decide), nm_r (show _ = upd sn r.length (nI 1) by rw [cr]; rfl) (nm_r (nI_1 _) ?_)⟩
        rw [fv_1]
        have key := h1 ⟨k0, Or.inr (Or.inr ⟨n1, nsec, k6 n1 nsec, fun _ => ⟨k2, (xn_el i).mp z⟩, fun w => by rw [k3] at w; exact absurd w (by decide)⟩)⟩ op (upd sn r.length (nI 1))
        rw [st_oth n1 nop, e] at key
        refine key ⟨hs.1, ?_, fm_stk_n (Nat.le_refl _) (fm_stk_i ur hs.2.2)⟩
        rw [pk_us]
        unfold fm_seen
        rw [if_pos k2, xn_cnt, z, if_pos ⟨by rw [e]; rfl, st_pe_iff.mpr k3⟩]
      · refine br_f (nI_ne0 (by omega) (by omega)) (h0 ?_)
        rintro ⟨_, w | w | w⟩
        · exact n1 w
        · exact nsec w.1
        · exact z ((xn_el i).mpr (w.2.2.2.1 k3).2)
    · rintro ⟨_, w | w | w⟩
      · exact n1 w
      · exact nsec w.1
      · exact k2 (w.2.2.2.1 k3).1
  · by_cases sec : st_sec (ya_kind v i)
    · have n1 : ¬ ya_kind v i = 1 := by intro w; rw [w] at sec; exact absurd sec (by decide)
      have nop : ¬ st_op (ya_kind v i) := by rcases sec with h | h | h | h <;> (rw [h]; decide)
      refine ysec_t sec (br_f (by decide) (br_c (fun ko => ?_) (fun ko => h0 ?_)))
      · have se : fm_seen (ya_kind v) o i = fm_sv (st_n (ya_kind v) st_pc o i) (st_n (ya_kind v) st_pa o i) := by
          unfold fm_seen
          rw [if_neg (by rw [ko]; decide), if_pos ko]
        rw [se]
        have hh : (st_s (ya_kind v) i).head? = some o := by rw [e]; rfl
        have go : (st_pc (ya_kind v i) = true → st_n (ya_kind v) st_pc o i < 3) → (st_pc (ya_kind v i) = false → st_n (ya_kind v) st_pa o i < 1) → cy_form_180 post J (nI (r.length + 1)) (nI i) (ya_kind v i) (nI (fm_sv (st_n (ya_kind v) st_pc o i) (st_n (ya_kind v) st_pa o i))) (fm_v v op sn) := by
          intro g1 g0
          have key := h1 ⟨k0, Or.inr (Or.inl ⟨sec, ko, g1, g0⟩)⟩ op
          rw [st_oth n1 nop, e] at key
          refine yj_180 (by omega) hi (by omega) (by omega) sec (fun p => ⟨g1 p, key _ ⟨hs.1, ?_, fm_stk_n (Nat.le_refl _) (fm_stk_i ur hs.2.2)⟩⟩) (fun p => ⟨g0 p, key _ ⟨hs.1, ?_, fm_stk_n (Nat.le_refl _) (fm_stk_i ur hs.2.2)⟩⟩)
          · rw [pk_us]
            unfold fm_seen
            have pa : st_pa (ya_kind v i) = false := by rw [st_pc_iff] at p; rcases p with p | p <;> (rw [p]; rfl)
            rw [if_neg (by rw [ko]; decide), if_pos ko, xn_cnt, xn_cnt, if_pos ⟨hh, p⟩, if_neg (fun w => by rw [pa] at w; exact absurd w.2 (by decide))]
            rfl
          · rw [pk_us]
            unfold fm_seen
            have pa : st_pa (ya_kind v i) = true := by rcases sec_or.mp sec with w | w
                                                       · rw [p] at w; cases w
                                                       · exact w
            rw [if_neg (by rw [ko]; decide), if_pos ko, xn_cnt, xn_cnt, if_neg (fun w => by rw [p] at w; exact absurd w.2 (by decide)), if_pos ⟨hh, pa⟩]
            rfl
        have bad : ∀ (x : Prop), (x → (st_pc (ya_kind v i) = true → st_n (ya_kind v) st_pc o i < 3) ∧ (st_pc (ya_kind v i) = false → st_n (ya_kind v) st_pa o i < 1) → False) → x → post (nI i) (fm_v v op sn) := by
          intro x hx x'
          refine h0 ?_
          rintro ⟨_, w | w | w⟩
          · exact n1 w
          · exact hx x' ⟨w.2.2.1, w.2.2.2⟩
          · exact w.2.1 sec
        have hk : (st_pc (ya_kind v i) = true ∧ ya_kind v i < 9) ∨ (st_pc (ya_kind v i) = false ∧ ¬ ya_kind v i < 9) := by rcases sec with h | h | h | h <;> (rw [h]; decide)
        rcases hk with ⟨p, q⟩ | ⟨p, q⟩
        · refine br_t q ?_
          rw [fs_and _ (by omega) _ (by omega)]
          exact br_c (fun w => go (fun _ => w) (fun z => absurd (p.symm.trans z) (by decide))) (bad _ (fun w z => w (z.1 p)))
        · refine br_f q ?_
          rw [fs_lt _ (by omega) _ (by omega)]
          exact br_c (fun w => go (fun z => absurd (z.symm.trans p) (by decide)) (fun _ => w)) (bad _ (fun w z => w (z.2 p)))
      · rintro ⟨_, w | w | w⟩
        · exact n1 w
        · exact ko w.2.1
        · exact w.2.1 sec
    · have uo : fm_seen (ya_kind v) o (i + 1) = fm_seen (ya_kind v) o i := fm_seen_s (fun z => z.2.elim k3 sec)
      have all : fm_stk op sn (ya_kind v) (i + 1) (o :: r) := fm_stk_i (fun b hb => by rcases List.mem_cons.mp hb with w | w
                                                                                       · rw [w]; exact uo
                                                                                       · exact ur b w) hs
      have okk : ¬ ya_kind v i = 1 → (ya_kind v i = 5 → ∃ b, b ∈ st_s (ya_kind v) i ∧ ya_kind v b = 4) → _ := fun n1 h5 => h1 ⟨k0, Or.inr (Or.inr ⟨n1, sec, k6 n1 sec, fun w => absurd w k3, h5⟩)⟩
      refine ysec_f sec (br_t rfl (br_c (fun k5 => ⟨r.length + 1 + 1, ?_⟩) (fun k5 => br_c (fun k1 => ?_) (fun k1 => ?_))))
      · have n1 : ¬ ya_kind v i = 1 := by rw [k5]; decide
        have nop : ¬ st_op (ya_kind v i) := by rw [k5]; decide
        have b60 : ∀ b, b ∈ o :: r → b < 60 := fun b hb => by rw [← e] at hb; have := (st_lt hb).1; omega
        refine yb_loop (v := fm_v v op sn) (S := o :: r) hi (by rw [List.length_cons]; omega) b60 (fm_stk_1 hs) (fm_stk_2 hs) (fun w => ?_) (fun w => h0 ?_) (r.length + 1) 0 0 (by rw [List.length_cons]; omega) (Or.inl ⟨rfl, fun q hq => by omega⟩) _ (by omega)
        · have key := okk n1 (fun _ => by rw [e]; exact w) op sn
          rw [st_oth n1 nop, e] at key
          exact key all
        · rintro ⟨_, x | x | x⟩
          · exact n1 x
          · exact sec x.1
          · have := x.2.2.2.2 k5
            rw [e] at this
            exact w this
      · have key := h1 ⟨k0, Or.inl k1⟩ op sn
        rw [st_end k1, e] at key
        exact nm_r (pk_m1 _) (nm_r (nI_1 _) (key all.2.2))
      · have push : st_op (ya_kind v i) → cy_form_312 post J (nI (r.length + 1)) (nI i) (fm_v v op sn) := by
          intro ho'
          have key := okk k1 (fun w => absurd w k5) (upd op (r.length + 1) (nI i)) (upd sn (r.length + 1) (nI 0))
          rw [st_opn ho', e] at key
          refine yj_312 (by omega) hi (key ⟨?_, ?_, ?_⟩)
          · rw [List.length_cons, pk_us]
          · rw [List.length_cons, pk_us, fm_seen_0]
          · exact fm_stk_u (by rw [List.length_cons]; omega) all
        refine br_c (fun w => absurd w k0) (fun _ => br_c (fun w => push (Or.inr (Or.inl w))) (fun w2 => br_c (fun w => push (Or.inr (Or.inr (Or.inl w)))) (fun w4 => br_c (fun w => push (Or.inr (Or.inr (Or.inr w)))) (fun w6 => nm_r (nI_1 _) ?_))))
        have nop : ¬ st_op (ya_kind v i) := fun z => z.elim k0 (fun z => z.elim w2 (fun z => z.elim w4 w6))
        have key := okk k1 (fun w => absurd w k5) op sn
        rw [st_oth k1 nop, e] at key
        exact key all
theorem yf_loop {post : Int32 → SY → Prop} {v : SY} {n : Nat} (hn : ya_lines v = nI n) (n60 : n ≤ 60) (hp : ∀ r op sn, fm_res (ya_kind v) n r → post r (fm_v v op sn)) :
    ∀ d i op sn, i + d = n → (∀ j, j < i → fm_ok (ya_kind v) j) → fm_stk op sn (ya_kind v) i (st_s (ya_kind v) i) → ∀ m, d < m → cy_form_4 post m (nI (st_s (ya_kind v) i).length) (nI i) (fm_v v op sn) := by
  intro d
  induction d with
  | zero =>
    intro i op sn hi hok hs m hm
    obtain ⟨m, rfl⟩ : ∃ q, m = q + 1 := ⟨m - 1, by omega⟩
    have e : i = n := by omega
    subst e
    have lb := st_bnd (ya_kind v) i
    rw [uy_form_4]
    have hl : ya_lines (fm_v v op sn) = nI i := hn
    rw [hl]
    refine br_t (nI_le (Nat.le_refl _) (by omega)) ?_
    cases e2 : st_s (ya_kind v) i with
    | nil =>
      refine br_f (by decide) ?_
      by_cases z : i = 0
      · exact br_t (by rw [z]; rfl) (hp _ _ _ (Or.inr ⟨hok, Or.inr ⟨fun w => by omega, rfl⟩⟩))
      · exact br_f (nI_ne0 (by omega) (by omega)) (hp _ _ _ (Or.inr ⟨hok, Or.inl ⟨e2, by omega, rfl⟩⟩))
    | cons o r =>
      rw [e2] at lb
      exact br_t (nI_lt (a := 0) (Nat.succ_pos _) (by omega)) (hp _ _ _ (Or.inr ⟨hok, Or.inr ⟨fun w => absurd (e2.symm.trans w.1) (List.cons_ne_nil _ _), rfl⟩⟩))
  | succ d ih =>
    intro i op sn hi hok hs m hm
    obtain ⟨m, rfl⟩ : ∃ q, m = q + 1 := ⟨m - 1, by omega⟩
    have lb := st_bnd (ya_kind v) i
    have ci : (nI i).toNatClampNeg = i := nI_clamp (by omega)
    rw [uy_form_4]
    have hl : ya_lines (fm_v v op sn) = nI n := hn
    rw [hl]
    have hok' : fm_ok (ya_kind v) i → ∀ j, j < i + 1 → fm_ok (ya_kind v) j := fun ok j hj => by
      by_cases z : j = i
      · subst z; exact ok
      · exact hok j (by omega)
    have nx : fm_ok (ya_kind v) i → ∀ op sn, fm_stk op sn (ya_kind v) (i + 1) (st_s (ya_kind v) (i + 1)) → cy_form_4 post m (nI (st_s (ya_kind v) (i + 1)).length) (nI (i + 1)) (fm_v v op sn) :=
      fun ok op sn h => ih (i + 1) op sn (by omega) (hok' ok) h m (by omega)
    have bad : ¬ fm_ok (ya_kind v) i → post (nI i) (fm_v v op sn) := fun nok => hp _ _ _ (Or.inl ⟨i, by omega, hok, nok, rfl⟩)
    refine br_f (nI_ge (by omega) (by omega)) ⟨vp_in_nI (by omega) (by decide), nm_r (show _ = ya_kind v i by rw [ci]; rfl) ?_⟩
    cases e : st_s (ya_kind v) i with
    | nil =>
      refine br_t (by decide) ?_
      rw [uy_form_40]
      refine br_t (by decide) ?_
      rw [uy_form_58]
      refine br_c (fun k0 => ?_) (fun k0 => ?_)
      · rw [uy_form_69]
        refine br_t rfl ?_
        rw [uy_form_78]
        refine br_t rfl (br_f (by decide) ?_)
        rw [uy_form_109]
        refine br_f (by rw [k0]; decide) (ysec_f (by rw [k0]; decide) (br_t rfl (br_f (by rw [k0]; decide) (br_f (by rw [k0]; decide) (br_t k0 ?_)))))
        have key := nx ((fm_nil e).mpr k0) (upd op 0 (nI i)) (upd sn 0 (nI 0))
        rw [st_opn (Or.inl k0), e] at key
        refine yj_312 (t := 0) (by omega) (by omega) (key ⟨?_, ?_, True.intro⟩)
        · exact pk_us
        · rw [fm_seen_0]; exact pk_us
      · rw [uy_form_69]
        refine br_t rfl ?_
        rw [uy_form_78]
        exact br_f (by decide) (bad (fun w => k0 ((fm_nil e).mp w)))
    | cons o r =>
      rw [e] at hs lb
      rw [List.length_cons] at lb
      have ho : o < i := (st_lt (K := ya_kind v) (i := i) (b := o) (by rw [e]; exact List.mem_cons_self)).1
      have pm : nI (r.length + 1) - 1 = nI r.length := nI_pred _
      have cr : (nI r.length).toNatClampNeg = r.length := nI_clamp (by omega)
      have eo : ya_open (fm_v v op sn) r.length = nI o := hs.1
      have es : ya_seen (fm_v v op sn) r.length = nI (fm_seen (ya_kind v) o i) := hs.2.1
      rw [List.length_cons, pm, cr, eo]
      refine br_f (nI_nle (by omega) (by omega)) ⟨vp_in_nI (by omega) (by decide), vp_in_nI (by omega) (by decide), ?_⟩
      rw [nI_clamp (show o < 2 ^ 31 by omega), uy_form_40]
      refine br_f (nI_nle (by omega) (by omega)) ?_
      rw [pm]
      refine ⟨vp_in_nI (by omega) (by decide), ?_⟩
      rw [cr, es, uy_form_58]
      have nz : ¬ nI (r.length + 1) = 0 := nI_ne0 (by omega) (by omega)
      refine br_c (fun k0 => ?_) (fun k0 => ?_)
      · rw [uy_form_69]
        refine br_f nz ?_
        rw [uy_form_78]
        exact br_f (by decide) (bad (fun w => ((fm_cons e).mp w).1 k0))
      · rw [uy_form_69]
        refine br_f nz ?_
        rw [uy_form_78]
        have sl := fm_seen_le (o := o) hok
        have go : (¬ ya_kind v i = 1 → ¬ st_sec (ya_kind v i) → ¬ (ya_kind v o = 6 ∧ o + 1 = i)) → cy_form_109 post (cy_form_4 post m) (nI (r.length + 1)) (nI i) (ya_kind v i) (ya_kind v o) (nI (fm_seen (ya_kind v) o i)) (fm_v v op sn) :=
          fun k6 => yj_109 (by omega) e hok hs k0 k6 nx bad
        refine br_t rfl (br_c (fun k6 => ?_) (fun k6 => go (fun _ _ z => k6 z.1)))
        have k6' : ya_kind v o = 6 := k6
        have se : fm_seen (ya_kind v) o i = fm_sv (st_n (ya_kind v) st_pc o i) (st_n (ya_kind v) st_pa o i) := by
          unfold fm_seen
          rw [if_neg (by rw [k6']; decide), if_pos k6']
        have ff := fm_first hok e k6'
        rw [← se] at ff
        refine br_c (fun z => ?_) (fun z => go (fun _ _ w => z (by rw [ff.mpr w.2]; rfl)))
        have z' : fm_seen (ya_kind v) o i = 0 := (nI_eq (b := 0) (by omega) (by omega)).mp z
        refine br_c (fun k1 => go (fun n1 => absurd k1 n1)) (fun n1 => ?_)
        by_cases sec : st_sec (ya_kind v i)
        · exact ysec_t sec (br_f (by decide) (go (fun _ ns => absurd sec ns)))
        · refine ysec_f sec (br_t rfl (bad (fun w => ?_)))
          rcases ((fm_cons e).mp w).2 with x | x | x
          · exact n1 x
          · exact sec x.1
          · exact x.2.2.1 ⟨k6', ff.mp z'⟩
theorem yf_form {post : Int32 → SY → Prop} {v : SY} {n : Nat} (hn : ya_lines v = nI n) (n60 : n ≤ 60) (hp : ∀ r op sn, fm_res (ya_kind v) n r → post r (fm_v v op sn)) : wpY_form post v := by
  rw [uy_form]
  exact ⟨_, yf_loop hn n60 hp n 0 (ya_open v) (ya_seen v) (by omega) (fun j hj => by omega) True.intro (n + 1) (by omega)⟩
/-- lines without a fault of form are well formed -/
theorem fm_wf {K : Nat → Int32} {n : Nat} (n60 : n ≤ 60) (h : fm_res K n (-1)) : st_wf K n ∧ (∀ j, j < n → fm_ok K j) ∧ 0 < n := by
  rcases h with ⟨i, a, b, c, d⟩ | ⟨b, ⟨c1, c2, c3⟩ | ⟨c1, c3⟩⟩
  · exact absurd d.symm (ne_m1 (by omega))
  · refine ⟨⟨n60, c1, fun i hi => fm_F (b i hi), fun i hi k3 => ?_, fun i hi sec => ?_, fun i hi k5 => ?_⟩, b, c2⟩
    · have ok := b i hi
      cases e : st_s K i with
      | nil => rw [fm_nil e, k3] at ok; exact absurd ok (by decide)
      | cons o r =>
        rw [fm_cons e, k3] at ok
        rcases ok.2 with w | w | w
        · exact absurd w (by decide)
        · exact absurd w.1 (by decide)
        · exact ⟨o, r, rfl, (w.2.2.2.1 rfl).1⟩
    · have ok := b i hi
      cases e : st_s K i with
      | nil => rw [fm_nil e] at ok; rw [ok] at sec; exact absurd sec (by decide)
      | cons o r =>
        rw [fm_cons e] at ok
        rcases ok.2 with w | w | w
        · rw [w] at sec; exact absurd sec (by decide)
        · exact ⟨o, r, rfl, w.2.1⟩
        · exact absurd sec w.2.1
    · have ok := b i hi
      cases e : st_s K i with
      | nil => rw [fm_nil e, k5] at ok; exact absurd ok (by decide)
      | cons o r =>
        rw [fm_cons e] at ok
        rcases ok.2 with w | w | w
        · rw [k5] at w; exact absurd w (by decide)
        · rw [k5] at w; exact absurd w.1 (by decide)
        · have := w.2.2.2.2 k5
          rw [e] at this
          exact this
  · exact absurd c3.symm (ne_m1 (by omega))
end
section
/-! lines, functions, CALLEE -/
def ln_set (k : Int32) : Prop := k = 8 ∨ k = 11 ∨ k = 13 ∨ k = 19 ∨ k = 21 ∨ k = 22 ∨ k = 23 ∨ k = 24 ∨ k = 25 ∨ k = 26 ∨ k = 27
abbrev ln_go (k : Int32) : Prop := k = 14 ∨ k = 15 ∨ k = 16
/-- what a line that was taken is like -/
def ln_ok (k a b c : Int32) : Prop := (∃ q, q < 30 ∧ k = nI q) ∧ (k = 0 → ∃ p, p < 3 ∧ a = nI p) ∧ (ln_set k → ∃ p, p < 6 ∧ a = nI p) ∧ (k = 8 ∨ k = 11 → ∃ p, p < 6 ∧ c = nI p) ∧ (k = 13 → ∃ p, p < 4 ∧ b = nI p) ∧ (ln_go k → ∃ p, p < 30 ∧ a = nI p)
theorem yfn_loop {post : Int32 → Prop} {v : SY} {n f : Nat} (hn : ya_lines v = nI n) (n60 : n ≤ 60) (hS : ∀ j, j < n → ya_kind v j = 0 → st_f (ya_kind v) j = f → post (nI j)) (hN : st_f (ya_kind v) n ≤ f → post (-1)) :
    ∀ d i q, i + d = n → q < 100 → q + st_f (ya_kind v) i = f → ∀ m, d < m → cy_function_4 post v m (nI q) (nI i) := by
  intro d
  induction d with
  | zero =>
    intro i q hi hq hf m hm
    obtain ⟨m, rfl⟩ : ∃ q, m = q + 1 := ⟨m - 1, by omega⟩
    rw [uy_function_4, hn]
    have e : i = n := by omega
    subst e
    exact br_t (nI_le (Nat.le_refl _) (by omega)) (hN (by omega))
  | succ d ih =>
    intro i q hi hq hf m hm
    obtain ⟨m, rfl⟩ : ∃ q, m = q + 1 := ⟨m - 1, by omega⟩
    rw [uy_function_4, hn]
    refine br_f (nI_ge (by omega) (by omega)) ⟨vp_in_nI (by omega) (by decide), ?_⟩
    rw [nI_clamp (by omega)]
    refine br_c (fun k0 => ?_) (fun k0 => nm_r (nI_1 _) (ih (i + 1) q (by omega) hq (by rw [fm_f0 k0]; exact hf) m (by omega)))
    cases q with
    | zero => exact nm_e (br_t rfl (hS i (by omega) k0 (by omega)))
    | succ q => exact nm_r (pk_m1 _) (br_f (nI_ne0 (by omega) (by omega)) (nm_r (nI_1 _) (ih (i + 1) q (by omega) (by omega) (by rw [fm_f1 k0]; omega) m (by omega))))
theorem yfn {post : Int32 → Prop} {v : SY} {n f : Nat} (hn : ya_lines v = nI n) (n60 : n ≤ 60) (hf : f < 100) (hS : ∀ j, j < n → ya_kind v j = 0 → st_f (ya_kind v) j = f → post (nI j)) (hN : st_f (ya_kind v) n ≤ f → post (-1)) : wpY_function post v (nI f) := by
  rw [uy_function]
  exact ⟨_, yfn_loop hn n60 hS hN n 0 f (by omega) hf rfl (n + 1) (by omega)⟩
def ce_res (K A : Nat → Int32) (F n : Nat) (r : Int32) : Prop :=
  (∃ i, i < n ∧ (∀ j, j < i → ln_go (K j) → A j < nI F) ∧ ln_go (K i) ∧ ¬ A i < nI F ∧ r = nI i) ∨ ((∀ j, j < n → ln_go (K j) → A j < nI F) ∧ r = -1)
theorem ce_uniq {K A : Nat → Int32} {F n : Nat} {r r' : Int32} (h : ce_res K A F n r) (h' : ce_res K A F n r') : r' = r := by
  rcases h with ⟨i, a, b, g, c, d⟩ | ⟨b, c⟩
  · rcases h' with ⟨i', a', b', g', c', d'⟩ | ⟨b', c'⟩
    · rcases Nat.lt_trichotomy i i' with z | z | z
      · exact absurd (b' i z g) c
      · subst z; rw [d, d']
      · exact absurd (b i' z g') c'
    · exact absurd (b' i a g) c
  · rcases h' with ⟨i', a', b', g', c', d'⟩ | ⟨b', c'⟩
    · exact absurd (b i' a' g') c'
    · rw [c, c']
theorem xc_loop {post : Int32 → Prop} {u : SX} {n F : Nat} (hn : xa_lineCount u = nI n) (n60 : n ≤ 60) (hF : xa_functionCount u = nI F) (hp : ∀ r, ce_res (xa_kinds u) (xa_argA u) F n r → post r) :
    ∀ d i, i + d = n → (∀ j, j < i → ln_go (xa_kinds u j) → xa_argA u j < nI F) → ∀ m, d < m → cx_calleeFault_2 post u m (nI i) := by
  intro d
  induction d with
  | zero =>
    intro i hi hok m hm
    obtain ⟨m, rfl⟩ : ∃ q, m = q + 1 := ⟨m - 1, by omega⟩
    rw [ux_calleeFault_2, hn]
    have e : i = n := by omega
    subst e
    exact br_t (nI_le (Nat.le_refl _) (by omega)) (hp _ (Or.inr ⟨hok, rfl⟩))
  | succ d ih =>
    intro i hi hok m hm
    obtain ⟨m, rfl⟩ : ∃ q, m = q + 1 := ⟨m - 1, by omega⟩
    have nx : (ln_go (xa_kinds u i) → xa_argA u i < nI F) → cx_calleeFault_2 post u m (nI (i + 1)) := by
      intro h
      refine ih (i + 1) (by omega) (fun j hj g => ?_) m (by omega)
      by_cases z : j = i
      · subst z; exact h g
      · exact hok j (by omega) g
    rw [ux_calleeFault_2, hn, hF]
    refine br_f (nI_ge (by omega) (by omega)) ⟨vp_in_nI (by omega) (by decide), ?_⟩
    rw [nI_clamp (by omega)]
    refine xk_start (fun g => br_f (by decide) ⟨vp_in_nI (by omega) (by decide), ?_⟩) (fun g => br_t rfl (nm_r (nI_1 _) (nx (fun z => absurd z g))))
    exact br_c (fun a => nm_r (nI_1 _) (nx (fun _ => a))) (fun a => hp _ (Or.inl ⟨i, by omega, hok, g, a, rfl⟩))
theorem xc_callee {post : Int32 → Prop} {u : SX} {n F : Nat} (hn : xa_lineCount u = nI n) (n60 : n ≤ 60) (hF : xa_functionCount u = nI F) (hp : ∀ r, ce_res (xa_kinds u) (xa_argA u) F n r → post r) : wpX_calleeFault post u := by
  rw [ux_calleeFault]
  exact ⟨_, xc_loop hn n60 hF hp n 0 (by omega) (fun j hj => by omega) (n + 1) (by omega)⟩
theorem go_rng {k : Int32} : ln_go k ↔ ¬ k < 14 ∧ ¬ 16 < k := by
  have e : ∀ m : Int32, k = m ↔ k.toInt = m.toInt := fun m => Int32.toInt_inj.symm
  simp only [ln_go, e, Int32.lt_iff_toInt_lt, show (14 : Int32).toInt = 14 from rfl, show (15 : Int32).toInt = 15 from rfl, show (16 : Int32).toInt = 16 from rfl]
  omega
theorem yc_loop {post : Int32 → Prop} {v : SY} {n F : Nat} (hn : ya_lines v = nI n) (n60 : n ≤ 60) (hF : st_f (ya_kind v) n = F) (F30 : F ≤ 60) (hl : ∀ i, i < n → ln_go (ya_kind v i) → ∃ p, p < 30 ∧ ya_opA v i = nI p) (hp : ∀ r, ce_res (ya_kind v) (ya_opA v) F n r → post r) :
    ∀ d i, i + d = n → (∀ j, j < i → ln_go (ya_kind v j) → ya_opA v j < nI F) → ∀ m, d < m → cy_callee_2 post v m (nI i) := by
  intro d
  induction d with
  | zero =>
    intro i hi hok m hm
    obtain ⟨m, rfl⟩ : ∃ q, m = q + 1 := ⟨m - 1, by omega⟩
    rw [uy_callee_2, hn]
    have e : i = n := by omega
    subst e
    exact br_t (nI_le (Nat.le_refl _) (by omega)) (hp _ (Or.inr ⟨hok, rfl⟩))
  | succ d ih =>
    intro i hi hok m hm
    obtain ⟨m, rfl⟩ : ∃ q, m = q + 1 := ⟨m - 1, by omega⟩
    have nx : (ln_go (ya_kind v i) → ya_opA v i < nI F) → cy_callee_2 post v m (nI (i + 1)) := by
      intro h
      refine ih (i + 1) (by omega) (fun j hj g => ?_) m (by omega)
      by_cases z : j = i
      · subst z; exact h g
      · exact hok j (by omega) g
    rw [uy_callee_2, hn]
    refine br_f (nI_ge (by omega) (by omega)) ⟨vp_in_nI (by omega) (by decide), ?_⟩
    rw [nI_clamp (by omega)]
    refine br_c (fun a => nm_r (nI_1 _) (nx (fun z => absurd a (go_rng.mp z).1))) (fun a => ⟨vp_in_nI (by omega) (by decide), br_c (fun b => nm_r (nI_1 _) (nx (fun z => absurd b (go_rng.mp z).2))) (fun b => ⟨vp_in_nI (by omega) (by decide), ?_⟩)⟩)
    have g := go_rng.mpr ⟨a, b⟩
    obtain ⟨p, hp30, ep⟩ := hl i (by omega) g
    rw [ep]
    refine yfn hn n60 (by omega) (fun j hj k0 ej => br_t (nI_pos' (by omega)) (nm_r (nI_1 _) (nx (fun _ => ?_)))) (fun hle => br_f (by decide) (hp _ (Or.inl ⟨i, by omega, hok, g, ?_, rfl⟩)))
    · rw [ep]
      have := st_f_lt k0 n hj
      exact nI_lt (by omega) (by omega)
    · rw [ep]
      exact nI_nlt (by omega) (by omega)
theorem yc_callee {post : Int32 → Prop} {v : SY} {n F : Nat} (hn : ya_lines v = nI n) (n60 : n ≤ 60) (hF : st_f (ya_kind v) n = F) (F30 : F ≤ 60) (hl : ∀ i, i < n → ln_go (ya_kind v i) → ∃ p, p < 30 ∧ ya_opA v i = nI p) (hp : ∀ r, ce_res (ya_kind v) (ya_opA v) F n r → post r) : wpY_callee post v := by
  rw [uy_callee]
  exact ⟨_, yc_loop hn n60 hF F30 hl hp n 0 (by omega) (fun j hj => by omega) (n + 1) (by omega)⟩
end
