section
/-! accessors and setters of the two states -/
def xa_lineCount (u : SX) : Int32 := u.1
def xa_functionCount (u : SX) : Int32 := u.2.1
def xa_foundLine (u : SX) : Int32 := u.2.2.1
def xa_state (u : SX) : Int32 := u.2.2.2.1
def xa_time (u : SX) : Int64 := u.2.2.2.2.1
def xa_endingPanic (u : SX) : Int32 := u.2.2.2.2.2.1
def xa_outputCount (u : SX) : Int32 := u.2.2.2.2.2.2.1
def xa_channelCount (u : SX) : Int32 := u.2.2.2.2.2.2.2.1
def xa_goroutineCount (u : SX) : Int32 := u.2.2.2.2.2.2.2.2.1
def xa_waitsBegun (u : SX) : Int32 := u.2.2.2.2.2.2.2.2.2.1
def xa_running (u : SX) : Int32 := u.2.2.2.2.2.2.2.2.2.2.1
def xa_queueLength (u : SX) : Int32 := u.2.2.2.2.2.2.2.2.2.2.2.1
def xa_kinds (u : SX) : Nat → Int32 := u.2.2.2.2.2.2.2.2.2.2.2.2.1
def xa_argA (u : SX) : Nat → Int32 := u.2.2.2.2.2.2.2.2.2.2.2.2.2.1
def xa_argB (u : SX) : Nat → Int32 := u.2.2.2.2.2.2.2.2.2.2.2.2.2.2.1
def xa_argC (u : SX) : Nat → Int32 := u.2.2.2.2.2.2.2.2.2.2.2.2.2.2.2.1
def xa_blockOf (u : SX) : Nat → Int32 := u.2.2.2.2.2.2.2.2.2.2.2.2.2.2.2.2.1
def xa_endOf (u : SX) : Nat → Int32 := u.2.2.2.2.2.2.2.2.2.2.2.2.2.2.2.2.2.1
def xa_elseOf (u : SX) : Nat → Int32 := u.2.2.2.2.2.2.2.2.2.2.2.2.2.2.2.2.2.2.1
def xa_functionLine (u : SX) : Nat → Int32 := u.2.2.2.2.2.2.2.2.2.2.2.2.2.2.2.2.2.2.2.1
def xa_surelySet (u : SX) : Nat → Int32 := u.2.2.2.2.2.2.2.2.2.2.2.2.2.2.2.2.2.2.2.2.1
def xa_outputs (u : SX) : Nat → Int32 := u.2.2.2.2.2.2.2.2.2.2.2.2.2.2.2.2.2.2.2.2.2.1
def xa_capacity (u : SX) : Nat → Int32 := u.2.2.2.2.2.2.2.2.2.2.2.2.2.2.2.2.2.2.2.2.2.2.1
def xa_fill (u : SX) : Nat → Int32 := u.2.2.2.2.2.2.2.2.2.2.2.2.2.2.2.2.2.2.2.2.2.2.2.1
def xa_closed (u : SX) : Nat → Int32 := u.2.2.2.2.2.2.2.2.2.2.2.2.2.2.2.2.2.2.2.2.2.2.2.2.1
def xa_held (u : SX) : Nat → Int32 := u.2.2.2.2.2.2.2.2.2.2.2.2.2.2.2.2.2.2.2.2.2.2.2.2.2.1
def xa_status (u : SX) : Nat → Int32 := u.2.2.2.2.2.2.2.2.2.2.2.2.2.2.2.2.2.2.2.2.2.2.2.2.2.2.1
def xa_depth (u : SX) : Nat → Int32 := u.2.2.2.2.2.2.2.2.2.2.2.2.2.2.2.2.2.2.2.2.2.2.2.2.2.2.2.1
def xa_waitOrder (u : SX) : Nat → Int32 := u.2.2.2.2.2.2.2.2.2.2.2.2.2.2.2.2.2.2.2.2.2.2.2.2.2.2.2.2.1
def xa_waitUntil (u : SX) : Nat → Int64 := u.2.2.2.2.2.2.2.2.2.2.2.2.2.2.2.2.2.2.2.2.2.2.2.2.2.2.2.2.2.1
def xa_queue (u : SX) : Nat → Int32 := u.2.2.2.2.2.2.2.2.2.2.2.2.2.2.2.2.2.2.2.2.2.2.2.2.2.2.2.2.2.2.1
def xa_slotWish (u : SX) : Nat → Int32 := u.2.2.2.2.2.2.2.2.2.2.2.2.2.2.2.2.2.2.2.2.2.2.2.2.2.2.2.2.2.2.2.1
def xa_slotLine (u : SX) : Nat → Int32 := u.2.2.2.2.2.2.2.2.2.2.2.2.2.2.2.2.2.2.2.2.2.2.2.2.2.2.2.2.2.2.2.2.1
def xa_position (u : SX) : Nat → Int32 := u.2.2.2.2.2.2.2.2.2.2.2.2.2.2.2.2.2.2.2.2.2.2.2.2.2.2.2.2.2.2.2.2.2.1
def xa_mode (u : SX) : Nat → Int32 := u.2.2.2.2.2.2.2.2.2.2.2.2.2.2.2.2.2.2.2.2.2.2.2.2.2.2.2.2.2.2.2.2.2.2.1
def xa_panicOf (u : SX) : Nat → Int32 := u.2.2.2.2.2.2.2.2.2.2.2.2.2.2.2.2.2.2.2.2.2.2.2.2.2.2.2.2.2.2.2.2.2.2.2.1
def xa_noteCount (u : SX) : Nat → Int32 := u.2.2.2.2.2.2.2.2.2.2.2.2.2.2.2.2.2.2.2.2.2.2.2.2.2.2.2.2.2.2.2.2.2.2.2.2.1
def xa_noteFunction (u : SX) : Nat → Int32 := u.2.2.2.2.2.2.2.2.2.2.2.2.2.2.2.2.2.2.2.2.2.2.2.2.2.2.2.2.2.2.2.2.2.2.2.2.2.1
def xa_noteValues (u : SX) : Nat → Int32 := u.2.2.2.2.2.2.2.2.2.2.2.2.2.2.2.2.2.2.2.2.2.2.2.2.2.2.2.2.2.2.2.2.2.2.2.2.2.2.1
def xa_variables (u : SX) : Nat → Int32 := u.2.2.2.2.2.2.2.2.2.2.2.2.2.2.2.2.2.2.2.2.2.2.2.2.2.2.2.2.2.2.2.2.2.2.2.2.2.2.2
def xs_lineCount (u : SX) (a : Int32) : SX := (a, xa_functionCount u, xa_foundLine u, xa_state u, xa_time u, xa_endingPanic u, xa_outputCount u, xa_channelCount u, xa_goroutineCount u, xa_waitsBegun u, xa_running u, xa_queueLength u, xa_kinds u, xa_argA u, xa_argB u, xa_argC u, xa_blockOf u, xa_endOf u, xa_elseOf u, xa_functionLine u, xa_surelySet u, xa_outputs u, xa_capacity u, xa_fill u, xa_closed u, xa_held u, xa_status u, xa_depth u, xa_waitOrder u, xa_waitUntil u, xa_queue u, xa_slotWish u, xa_slotLine u, xa_position u, xa_mode u, xa_panicOf u, xa_noteCount u, xa_noteFunction u, xa_noteValues u, xa_variables u)
def xs_functionCount (u : SX) (a : Int32) : SX := (xa_lineCount u, a, xa_foundLine u, xa_state u, xa_time u, xa_endingPanic u, xa_outputCount u, xa_channelCount u, xa_goroutineCount u, xa_waitsBegun u, xa_running u, xa_queueLength u, xa_kinds u, xa_argA u, xa_argB u, xa_argC u, xa_blockOf u, xa_endOf u, xa_elseOf u, xa_functionLine u, xa_surelySet u, xa_outputs u, xa_capacity u, xa_fill u, xa_closed u, xa_held u, xa_status u, xa_depth u, xa_waitOrder u, xa_waitUntil u, xa_queue u, xa_slotWish u, xa_slotLine u, xa_position u, xa_mode u, xa_panicOf u, xa_noteCount u, xa_noteFunction u, xa_noteValues u, xa_variables u)
def xs_foundLine (u : SX) (a : Int32) : SX := (xa_lineCount u, xa_functionCount u, a, xa_state u, xa_time u, xa_endingPanic u, xa_outputCount u, xa_channelCount u, xa_goroutineCount u, xa_waitsBegun u, xa_running u, xa_queueLength u, xa_kinds u, xa_argA u, xa_argB u, xa_argC u, xa_blockOf u, xa_endOf u, xa_elseOf u, xa_functionLine u, xa_surelySet u, xa_outputs u, xa_capacity u, xa_fill u, xa_closed u, xa_held u, xa_status u, xa_depth u, xa_waitOrder u, xa_waitUntil u, xa_queue u, xa_slotWish u, xa_slotLine u, xa_position u, xa_mode u, xa_panicOf u, xa_noteCount u, xa_noteFunction u, xa_noteValues u, xa_variables u)
def xs_state (u : SX) (a : Int32) : SX := (xa_lineCount u, xa_functionCount u, xa_foundLine u, a, xa_time u, xa_endingPanic u, xa_outputCount u, xa_channelCount u, xa_goroutineCount u, xa_waitsBegun u, xa_running u, xa_queueLength u, xa_kinds u, xa_argA u, xa_argB u, xa_argC u, xa_blockOf u, xa_endOf u, xa_elseOf u, xa_functionLine u, xa_surelySet u, xa_outputs u, xa_capacity u, xa_fill u, xa_closed u, xa_held u, xa_status u, xa_depth u, xa_waitOrder u, xa_waitUntil u, xa_queue u, xa_slotWish u, xa_slotLine u, xa_position u, xa_mode u, xa_panicOf u, xa_noteCount u, xa_noteFunction u, xa_noteValues u, xa_variables u)
def xs_time (u : SX) (a : Int64) : SX := (xa_lineCount u, xa_functionCount u, xa_foundLine u, xa_state u, a, xa_endingPanic u, xa_outputCount u, xa_channelCount u, xa_goroutineCount u, xa_waitsBegun u, xa_running u, xa_queueLength u, xa_kinds u, xa_argA u, xa_argB u, xa_argC u, xa_blockOf u, xa_endOf u, xa_elseOf u, xa_functionLine u, xa_surelySet u, xa_outputs u, xa_capacity u, xa_fill u, xa_closed u, xa_held u, xa_status u, xa_depth u, xa_waitOrder u, xa_waitUntil u, xa_queue u, xa_slotWish u, xa_slotLine u, xa_position u, xa_mode u, xa_panicOf u, xa_noteCount u, xa_noteFunction u, xa_noteValues u, xa_variables u)
def xs_endingPanic (u : SX) (a : Int32) : SX := (xa_lineCount u, xa_functionCount u, xa_foundLine u, xa_state u, xa_time u, a, xa_outputCount u, xa_channelCount u, xa_goroutineCount u, xa_waitsBegun u, xa_running u, xa_queueLength u, xa_kinds u, xa_argA u, xa_argB u, xa_argC u, xa_blockOf u, xa_endOf u, xa_elseOf u, xa_functionLine u, xa_surelySet u, xa_outputs u, xa_capacity u, xa_fill u, xa_closed u, xa_held u, xa_status u, xa_depth u, xa_waitOrder u, xa_waitUntil u, xa_queue u, xa_slotWish u, xa_slotLine u, xa_position u, xa_mode u, xa_panicOf u, xa_noteCount u, xa_noteFunction u, xa_noteValues u, xa_variables u)
def xs_outputCount (u : SX) (a : Int32) : SX := (xa_lineCount u, xa_functionCount u, xa_foundLine u, xa_state u, xa_time u, xa_endingPanic u, a, xa_channelCount u, xa_goroutineCount u, xa_waitsBegun u, xa_running u, xa_queueLength u, xa_kinds u, xa_argA u, xa_argB u, xa_argC u, xa_blockOf u, xa_endOf u, xa_elseOf u, xa_functionLine u, xa_surelySet u, xa_outputs u, xa_capacity u, xa_fill u, xa_closed u, xa_held u, xa_status u, xa_depth u, xa_waitOrder u, xa_waitUntil u, xa_queue u, xa_slotWish u, xa_slotLine u, xa_position u, xa_mode u, xa_panicOf u, xa_noteCount u, xa_noteFunction u, xa_noteValues u, xa_variables u)
def xs_channelCount (u : SX) (a : Int32) : SX := (xa_lineCount u, xa_functionCount u, xa_foundLine u, xa_state u, xa_time u, xa_endingPanic u, xa_outputCount u, a, xa_goroutineCount u, xa_waitsBegun u, xa_running u, xa_queueLength u, xa_kinds u, xa_argA u, xa_argB u, xa_argC u, xa_blockOf u, xa_endOf u, xa_elseOf u, xa_functionLine u, xa_surelySet u, xa_outputs u, xa_capacity u, xa_fill u, xa_closed u, xa_held u, xa_status u, xa_depth u, xa_waitOrder u, xa_waitUntil u, xa_queue u, xa_slotWish u, xa_slotLine u, xa_position u, xa_mode u, xa_panicOf u, xa_noteCount u, xa_noteFunction u, xa_noteValues u, xa_variables u)
def xs_goroutineCount (u : SX) (a : Int32) : SX := (xa_lineCount u, xa_functionCount u, xa_foundLine u, xa_state u, xa_time u, xa_endingPanic u, xa_outputCount u, xa_channelCount u, a, xa_waitsBegun u, xa_running u, xa_queueLength u, xa_kinds u, xa_argA u, xa_argB u, xa_argC u, xa_blockOf u, xa_endOf u, xa_elseOf u, xa_functionLine u, xa_surelySet u, xa_outputs u, xa_capacity u, xa_fill u, xa_closed u, xa_held u, xa_status u, xa_depth u, xa_waitOrder u, xa_waitUntil u, xa_queue u, xa_slotWish u, xa_slotLine u, xa_position u, xa_mode u, xa_panicOf u, xa_noteCount u, xa_noteFunction u, xa_noteValues u, xa_variables u)
def xs_waitsBegun (u : SX) (a : Int32) : SX := (xa_lineCount u, xa_functionCount u, xa_foundLine u, xa_state u, xa_time u, xa_endingPanic u, xa_outputCount u, xa_channelCount u, xa_goroutineCount u, a, xa_running u, xa_queueLength u, xa_kinds u, xa_argA u, xa_argB u, xa_argC u, xa_blockOf u, xa_endOf u, xa_elseOf u, xa_functionLine u, xa_surelySet u, xa_outputs u, xa_capacity u, xa_fill u, xa_closed u, xa_held u, xa_status u, xa_depth u, xa_waitOrder u, xa_waitUntil u, xa_queue u, xa_slotWish u, xa_slotLine u, xa_position u, xa_mode u, xa_panicOf u, xa_noteCount u, xa_noteFunction u, xa_noteValues u, xa_variables u)
def xs_running (u : SX) (a : Int32) : SX := (xa_lineCount u, xa_functionCount u, xa_foundLine u, xa_state u, xa_time u, xa_endingPanic u, xa_outputCount u, xa_channelCount u, xa_goroutineCount u, xa_waitsBegun u, a, xa_queueLength u, xa_kinds u, xa_argA u, xa_argB u, xa_argC u, xa_blockOf u, xa_endOf u, xa_elseOf u, xa_functionLine u, xa_surelySet u, xa_outputs u, xa_capacity u, xa_fill u, xa_closed u, xa_held u, xa_status u, xa_depth u, xa_waitOrder u, xa_waitUntil u, xa_queue u, xa_slotWish u, xa_slotLine u, xa_position u, xa_mode u, xa_panicOf u, xa_noteCount u, xa_noteFunction u, xa_noteValues u, xa_variables u)
def xs_queueLength (u : SX) (a : Int32) : SX := (xa_lineCount u, xa_functionCount u, xa_foundLine u, xa_state u, xa_time u, xa_endingPanic u, xa_outputCount u, xa_channelCount u, xa_goroutineCount u, xa_waitsBegun u, xa_running u, a, xa_kinds u, xa_argA u, xa_argB u, xa_argC u, xa_blockOf u, xa_endOf u, xa_elseOf u, xa_functionLine u, xa_surelySet u, xa_outputs u, xa_capacity u, xa_fill u, xa_closed u, xa_held u, xa_status u, xa_depth u, xa_waitOrder u, xa_waitUntil u, xa_queue u, xa_slotWish u, xa_slotLine u, xa_position u, xa_mode u, xa_panicOf u, xa_noteCount u, xa_noteFunction u, xa_noteValues u, xa_variables u)
def xs_kinds (u : SX) (a : Nat → Int32) : SX := (xa_lineCount u, xa_functionCount u, xa_foundLine u, xa_state u, xa_time u, xa_endingPanic u, xa_outputCount u, xa_channelCount u, xa_goroutineCount u, xa_waitsBegun u, xa_running u, xa_queueLength u, a, xa_argA u, xa_argB u, xa_argC u, xa_blockOf u, xa_endOf u, xa_elseOf u, xa_functionLine u, xa_surelySet u, xa_outputs u, xa_capacity u, xa_fill u, xa_closed u, xa_held u, xa_status u, xa_depth u, xa_waitOrder u, xa_waitUntil u, xa_queue u, xa_slotWish u, xa_slotLine u, xa_position u, xa_mode u, xa_panicOf u, xa_noteCount u, xa_noteFunction u, xa_noteValues u, xa_variables u)
def xs_argA (u : SX) (a : Nat → Int32) : SX := (xa_lineCount u, xa_functionCount u, xa_foundLine u, xa_state u, xa_time u, xa_endingPanic u, xa_outputCount u, xa_channelCount u, xa_goroutineCount u, xa_waitsBegun u, xa_running u, xa_queueLength u, xa_kinds u, a, xa_argB u, xa_argC u, xa_blockOf u, xa_endOf u, xa_elseOf u, xa_functionLine u, xa_surelySet u, xa_outputs u, xa_capacity u, xa_fill u, xa_closed u, xa_held u, xa_status u, xa_depth u, xa_waitOrder u, xa_waitUntil u, xa_queue u, xa_slotWish u, xa_slotLine u, xa_position u, xa_mode u, xa_panicOf u, xa_noteCount u, xa_noteFunction u, xa_noteValues u, xa_variables u)
def xs_argB (u : SX) (a : Nat → Int32) : SX := (xa_lineCount u, xa_functionCount u, xa_foundLine u, xa_state u, xa_time u, xa_endingPanic u, xa_outputCount u, xa_channelCount u, xa_goroutineCount u, xa_waitsBegun u, xa_running u, xa_queueLength u, xa_kinds u, xa_argA u, a, xa_argC u, xa_blockOf u, xa_endOf u, xa_elseOf u, xa_functionLine u, xa_surelySet u, xa_outputs u, xa_capacity u, xa_fill u, xa_closed u, xa_held u, xa_status u, xa_depth u, xa_waitOrder u, xa_waitUntil u, xa_queue u, xa_slotWish u, xa_slotLine u, xa_position u, xa_mode u, xa_panicOf u, xa_noteCount u, xa_noteFunction u, xa_noteValues u, xa_variables u)
def xs_argC (u : SX) (a : Nat → Int32) : SX := (xa_lineCount u, xa_functionCount u, xa_foundLine u, xa_state u, xa_time u, xa_endingPanic u, xa_outputCount u, xa_channelCount u, xa_goroutineCount u, xa_waitsBegun u, xa_running u, xa_queueLength u, xa_kinds u, xa_argA u, xa_argB u, a, xa_blockOf u, xa_endOf u, xa_elseOf u, xa_functionLine u, xa_surelySet u, xa_outputs u, xa_capacity u, xa_fill u, xa_closed u, xa_held u, xa_status u, xa_depth u, xa_waitOrder u, xa_waitUntil u, xa_queue u, xa_slotWish u, xa_slotLine u, xa_position u, xa_mode u, xa_panicOf u, xa_noteCount u, xa_noteFunction u, xa_noteValues u, xa_variables u)
def xs_blockOf (u : SX) (a : Nat → Int32) : SX := (xa_lineCount u, xa_functionCount u, xa_foundLine u, xa_state u, xa_time u, xa_endingPanic u, xa_outputCount u, xa_channelCount u, xa_goroutineCount u, xa_waitsBegun u, xa_running u, xa_queueLength u, xa_kinds u, xa_argA u, xa_argB u, xa_argC u, a, xa_endOf u, xa_elseOf u, xa_functionLine u, xa_surelySet u, xa_outputs u, xa_capacity u, xa_fill u, xa_closed u, xa_held u, xa_status u, xa_depth u, xa_waitOrder u, xa_waitUntil u, xa_queue u, xa_slotWish u, xa_slotLine u, xa_position u, xa_mode u, xa_panicOf u, xa_noteCount u, xa_noteFunction u, xa_noteValues u, xa_variables u)
def xs_endOf (u : SX) (a : Nat → Int32) : SX := (xa_lineCount u, xa_functionCount u, xa_foundLine u, xa_state u, xa_time u, xa_endingPanic u, xa_outputCount u, xa_channelCount u, xa_goroutineCount u, xa_waitsBegun u, xa_running u, xa_queueLength u, xa_kinds u, xa_argA u, xa_argB u, xa_argC u, xa_blockOf u, a, xa_elseOf u, xa_functionLine u, xa_surelySet u, xa_outputs u, xa_capacity u, xa_fill u, xa_closed u, xa_held u, xa_status u, xa_depth u, xa_waitOrder u, xa_waitUntil u, xa_queue u, xa_slotWish u, xa_slotLine u, xa_position u, xa_mode u, xa_panicOf u, xa_noteCount u, xa_noteFunction u, xa_noteValues u, xa_variables u)
def xs_elseOf (u : SX) (a : Nat → Int32) : SX := (xa_lineCount u, xa_functionCount u, xa_foundLine u, xa_state u, xa_time u, xa_endingPanic u, xa_outputCount u, xa_channelCount u, xa_goroutineCount u, xa_waitsBegun u, xa_running u, xa_queueLength u, xa_kinds u, xa_argA u, xa_argB u, xa_argC u, xa_blockOf u, xa_endOf u, a, xa_functionLine u, xa_surelySet u, xa_outputs u, xa_capacity u, xa_fill u, xa_closed u, xa_held u, xa_status u, xa_depth u, xa_waitOrder u, xa_waitUntil u, xa_queue u, xa_slotWish u, xa_slotLine u, xa_position u, xa_mode u, xa_panicOf u, xa_noteCount u, xa_noteFunction u, xa_noteValues u, xa_variables u)
def xs_functionLine (u : SX) (a : Nat → Int32) : SX := (xa_lineCount u, xa_functionCount u, xa_foundLine u, xa_state u, xa_time u, xa_endingPanic u, xa_outputCount u, xa_channelCount u, xa_goroutineCount u, xa_waitsBegun u, xa_running u, xa_queueLength u, xa_kinds u, xa_argA u, xa_argB u, xa_argC u, xa_blockOf u, xa_endOf u, xa_elseOf u, a, xa_surelySet u, xa_outputs u, xa_capacity u, xa_fill u, xa_closed u, xa_held u, xa_status u, xa_depth u, xa_waitOrder u, xa_waitUntil u, xa_queue u, xa_slotWish u, xa_slotLine u, xa_position u, xa_mode u, xa_panicOf u, xa_noteCount u, xa_noteFunction u, xa_noteValues u, xa_variables u)
def xs_surelySet (u : SX) (a : Nat → Int32) : SX := (xa_lineCount u, xa_functionCount u, xa_foundLine u, xa_state u, xa_time u, xa_endingPanic u, xa_outputCount u, xa_channelCount u, xa_goroutineCount u, xa_waitsBegun u, xa_running u, xa_queueLength u, xa_kinds u, xa_argA u, xa_argB u, xa_argC u, xa_blockOf u, xa_endOf u, xa_elseOf u, xa_functionLine u, a, xa_outputs u, xa_capacity u, xa_fill u, xa_closed u, xa_held u, xa_status u, xa_depth u, xa_waitOrder u, xa_waitUntil u, xa_queue u, xa_slotWish u, xa_slotLine u, xa_position u, xa_mode u, xa_panicOf u, xa_noteCount u, xa_noteFunction u, xa_noteValues u, xa_variables u)
def xs_outputs (u : SX) (a : Nat → Int32) : SX := (xa_lineCount u, xa_functionCount u, xa_foundLine u, xa_state u, xa_time u, xa_endingPanic u, xa_outputCount u, xa_channelCount u, xa_goroutineCount u, xa_waitsBegun u, xa_running u, xa_queueLength u, xa_kinds u, xa_argA u, xa_argB u, xa_argC u, xa_blockOf u, xa_endOf u, xa_elseOf u, xa_functionLine u, xa_surelySet u, a, xa_capacity u, xa_fill u, xa_closed u, xa_held u, xa_status u, xa_depth u, xa_waitOrder u, xa_waitUntil u, xa_queue u, xa_slotWish u, xa_slotLine u, xa_position u, xa_mode u, xa_panicOf u, xa_noteCount u, xa_noteFunction u, xa_noteValues u, xa_variables u)
def xs_capacity (u : SX) (a : Nat → Int32) : SX := (xa_lineCount u, xa_functionCount u, xa_foundLine u, xa_state u, xa_time u, xa_endingPanic u, xa_outputCount u, xa_channelCount u, xa_goroutineCount u, xa_waitsBegun u, xa_running u, xa_queueLength u, xa_kinds u, xa_argA u, xa_argB u, xa_argC u, xa_blockOf u, xa_endOf u, xa_elseOf u, xa_functionLine u, xa_surelySet u, xa_outputs u, a, xa_fill u, xa_closed u, xa_held u, xa_status u, xa_depth u, xa_waitOrder u, xa_waitUntil u, xa_queue u, xa_slotWish u, xa_slotLine u, xa_position u, xa_mode u, xa_panicOf u, xa_noteCount u, xa_noteFunction u, xa_noteValues u, xa_variables u)
def xs_fill (u : SX) (a : Nat → Int32) : SX := (xa_lineCount u, xa_functionCount u, xa_foundLine u, xa_state u, xa_time u, xa_endingPanic u, xa_outputCount u, xa_channelCount u, xa_goroutineCount u, xa_waitsBegun u, xa_running u, xa_queueLength u, xa_kinds u, xa_argA u, xa_argB u, xa_argC u, xa_blockOf u, xa_endOf u, xa_elseOf u, xa_functionLine u, xa_surelySet u, xa_outputs u, xa_capacity u, a, xa_closed u, xa_held u, xa_status u, xa_depth u, xa_waitOrder u, xa_waitUntil u, xa_queue u, xa_slotWish u, xa_slotLine u, xa_position u, xa_mode u, xa_panicOf u, xa_noteCount u, xa_noteFunction u, xa_noteValues u, xa_variables u)
def xs_closed (u : SX) (a : Nat → Int32) : SX := (xa_lineCount u, xa_functionCount u, xa_foundLine u, xa_state u, xa_time u, xa_endingPanic u, xa_outputCount u, xa_channelCount u, xa_goroutineCount u, xa_waitsBegun u, xa_running u, xa_queueLength u, xa_kinds u, xa_argA u, xa_argB u, xa_argC u, xa_blockOf u, xa_endOf u, xa_elseOf u, xa_functionLine u, xa_surelySet u, xa_outputs u, xa_capacity u, xa_fill u, a, xa_held u, xa_status u, xa_depth u, xa_waitOrder u, xa_waitUntil u, xa_queue u, xa_slotWish u, xa_slotLine u, xa_position u, xa_mode u, xa_panicOf u, xa_noteCount u, xa_noteFunction u, xa_noteValues u, xa_variables u)
def xs_held (u : SX) (a : Nat → Int32) : SX := (xa_lineCount u, xa_functionCount u, xa_foundLine u, xa_state u, xa_time u, xa_endingPanic u, xa_outputCount u, xa_channelCount u, xa_goroutineCount u, xa_waitsBegun u, xa_running u, xa_queueLength u, xa_kinds u, xa_argA u, xa_argB u, xa_argC u, xa_blockOf u, xa_endOf u, xa_elseOf u, xa_functionLine u, xa_surelySet u, xa_outputs u, xa_capacity u, xa_fill u, xa_closed u, a, xa_status u, xa_depth u, xa_waitOrder u, xa_waitUntil u, xa_queue u, xa_slotWish u, xa_slotLine u, xa_position u, xa_mode u, xa_panicOf u, xa_noteCount u, xa_noteFunction u, xa_noteValues u, xa_variables u)
def xs_status (u : SX) (a : Nat → Int32) : SX := (xa_lineCount u, xa_functionCount u, xa_foundLine u, xa_state u, xa_time u, xa_endingPanic u, xa_outputCount u, xa_channelCount u, xa_goroutineCount u, xa_waitsBegun u, xa_running u, xa_queueLength u, xa_kinds u, xa_argA u, xa_argB u, xa_argC u, xa_blockOf u, xa_endOf u, xa_elseOf u, xa_functionLine u, xa_surelySet u, xa_outputs u, xa_capacity u, xa_fill u, xa_closed u, xa_held u, a, xa_depth u, xa_waitOrder u, xa_waitUntil u, xa_queue u, xa_slotWish u, xa_slotLine u, xa_position u, xa_mode u, xa_panicOf u, xa_noteCount u, xa_noteFunction u, xa_noteValues u, xa_variables u)
def xs_depth (u : SX) (a : Nat → Int32) : SX := (xa_lineCount u, xa_functionCount u, xa_foundLine u, xa_state u, xa_time u, xa_endingPanic u, xa_outputCount u, xa_channelCount u, xa_goroutineCount u, xa_waitsBegun u, xa_running u, xa_queueLength u, xa_kinds u, xa_argA u, xa_argB u, xa_argC u, xa_blockOf u, xa_endOf u, xa_elseOf u, xa_functionLine u, xa_surelySet u, xa_outputs u, xa_capacity u, xa_fill u, xa_closed u, xa_held u, xa_status u, a, xa_waitOrder u, xa_waitUntil u, xa_queue u, xa_slotWish u, xa_slotLine u, xa_position u, xa_mode u, xa_panicOf u, xa_noteCount u, xa_noteFunction u, xa_noteValues u, xa_variables u)
def xs_waitOrder (u : SX) (a : Nat → Int32) : SX := (xa_lineCount u, xa_functionCount u, xa_foundLine u, xa_state u, xa_time u, xa_endingPanic u, xa_outputCount u, xa_channelCount u, xa_goroutineCount u, xa_waitsBegun u, xa_running u, xa_queueLength u, xa_kinds u, xa_argA u, xa_argB u, xa_argC u, xa_blockOf u, xa_endOf u, xa_elseOf u, xa_functionLine u, xa_surelySet u, xa_outputs u, xa_capacity u, xa_fill u, xa_closed u, xa_held u, xa_status u, xa_depth u, a, xa_waitUntil u, xa_queue u, xa_slotWish u, xa_slotLine u, xa_position u, xa_mode u, xa_panicOf u, xa_noteCount u, xa_noteFunction u, xa_noteValues u, xa_variables u)
def xs_waitUntil (u : SX) (a : Nat → Int64) : SX := (xa_lineCount u, xa_functionCount u, xa_foundLine u, xa_state u, xa_time u, xa_endingPanic u, xa_outputCount u, xa_channelCount u, xa_goroutineCount u, xa_waitsBegun u, xa_running u, xa_queueLength u, xa_kinds u, xa_argA u, xa_argB u, xa_argC u, xa_blockOf u, xa_endOf u, xa_elseOf u, xa_functionLine u, xa_surelySet u, xa_outputs u, xa_capacity u, xa_fill u, xa_closed u, xa_held u, xa_status u, xa_depth u, xa_waitOrder u, a, xa_queue u, xa_slotWish u, xa_slotLine u, xa_position u, xa_mode u, xa_panicOf u, xa_noteCount u, xa_noteFunction u, xa_noteValues u, xa_variables u)
def xs_queue (u : SX) (a : Nat → Int32) : SX := (xa_lineCount u, xa_functionCount u, xa_foundLine u, xa_state u, xa_time u, xa_endingPanic u, xa_outputCount u, xa_channelCount u, xa_goroutineCount u, xa_waitsBegun u, xa_running u, xa_queueLength u, xa_kinds u, xa_argA u, xa_argB u, xa_argC u, xa_blockOf u, xa_endOf u, xa_elseOf u, xa_functionLine u, xa_surelySet u, xa_outputs u, xa_capacity u, xa_fill u, xa_closed u, xa_held u, xa_status u, xa_depth u, xa_waitOrder u, xa_waitUntil u, a, xa_slotWish u, xa_slotLine u, xa_position u, xa_mode u, xa_panicOf u, xa_noteCount u, xa_noteFunction u, xa_noteValues u, xa_variables u)
def xs_slotWish (u : SX) (a : Nat → Int32) : SX := (xa_lineCount u, xa_functionCount u, xa_foundLine u, xa_state u, xa_time u, xa_endingPanic u, xa_outputCount u, xa_channelCount u, xa_goroutineCount u, xa_waitsBegun u, xa_running u, xa_queueLength u, xa_kinds u, xa_argA u, xa_argB u, xa_argC u, xa_blockOf u, xa_endOf u, xa_elseOf u, xa_functionLine u, xa_surelySet u, xa_outputs u, xa_capacity u, xa_fill u, xa_closed u, xa_held u, xa_status u, xa_depth u, xa_waitOrder u, xa_waitUntil u, xa_queue u, a, xa_slotLine u, xa_position u, xa_mode u, xa_panicOf u, xa_noteCount u, xa_noteFunction u, xa_noteValues u, xa_variables u)
def xs_slotLine (u : SX) (a : Nat → Int32) : SX := (xa_lineCount u, xa_functionCount u, xa_foundLine u, xa_state u, xa_time u, xa_endingPanic u, xa_outputCount u, xa_channelCount u, xa_goroutineCount u, xa_waitsBegun u, xa_running u, xa_queueLength u, xa_kinds u, xa_argA u, xa_argB u, xa_argC u, xa_blockOf u, xa_endOf u, xa_elseOf u, xa_functionLine u, xa_surelySet u, xa_outputs u, xa_capacity u, xa_fill u, xa_closed u, xa_held u, xa_status u, xa_depth u, xa_waitOrder u, xa_waitUntil u, xa_queue u, xa_slotWish u, a, xa_position u, xa_mode u, xa_panicOf u, xa_noteCount u, xa_noteFunction u, xa_noteValues u, xa_variables u)
def xs_position (u : SX) (a : Nat → Int32) : SX := (xa_lineCount u, xa_functionCount u, xa_foundLine u, xa_state u, xa_time u, xa_endingPanic u, xa_outputCount u, xa_channelCount u, xa_goroutineCount u, xa_waitsBegun u, xa_running u, xa_queueLength u, xa_kinds u, xa_argA u, xa_argB u, xa_argC u, xa_blockOf u, xa_endOf u, xa_elseOf u, xa_functionLine u, xa_surelySet u, xa_outputs u, xa_capacity u, xa_fill u, xa_closed u, xa_held u, xa_status u, xa_depth u, xa_waitOrder u, xa_waitUntil u, xa_queue u, xa_slotWish u, xa_slotLine u, a, xa_mode u, xa_panicOf u, xa_noteCount u, xa_noteFunction u, xa_noteValues u, xa_variables u)
def xs_mode (u : SX) (a : Nat → Int32) : SX := (xa_lineCount u, xa_functionCount u, xa_foundLine u, xa_state u, xa_time u, xa_endingPanic u, xa_outputCount u, xa_channelCount u, xa_goroutineCount u, xa_waitsBegun u, xa_running u, xa_queueLength u, xa_kinds u, xa_argA u, xa_argB u, xa_argC u, xa_blockOf u, xa_endOf u, xa_elseOf u, xa_functionLine u, xa_surelySet u, xa_outputs u, xa_capacity u, xa_fill u, xa_closed u, xa_held u, xa_status u, xa_depth u, xa_waitOrder u, xa_waitUntil u, xa_queue u, xa_slotWish u, xa_slotLine u, xa_position u, a, xa_panicOf u, xa_noteCount u, xa_noteFunction u, xa_noteValues u, xa_variables u)
def xs_panicOf (u : SX) (a : Nat → Int32) : SX := (xa_lineCount u, xa_functionCount u, xa_foundLine u, xa_state u, xa_time u, xa_endingPanic u, xa_outputCount u, xa_channelCount u, xa_goroutineCount u, xa_waitsBegun u, xa_running u, xa_queueLength u, xa_kinds u, xa_argA u, xa_argB u, xa_argC u, xa_blockOf u, xa_endOf u, xa_elseOf u, xa_functionLine u, xa_surelySet u, xa_outputs u, xa_capacity u, xa_fill u, xa_closed u, xa_held u, xa_status u, xa_depth u, xa_waitOrder u, xa_waitUntil u, xa_queue u, xa_slotWish u, xa_slotLine u, xa_position u, xa_mode u, a, xa_noteCount u, xa_noteFunction u, xa_noteValues u, xa_variables u)
def xs_noteCount (u : SX) (a : Nat → Int32) : SX := (xa_lineCount u, xa_functionCount u, xa_foundLine u, xa_state u, xa_time u, xa_endingPanic u, xa_outputCount u, xa_channelCount u, xa_goroutineCount u, xa_waitsBegun u, xa_running u, xa_queueLength u, xa_kinds u, xa_argA u, xa_argB u, xa_argC u, xa_blockOf u, xa_endOf u, xa_elseOf u, xa_functionLine u, xa_surelySet u, xa_outputs u, xa_capacity u, xa_fill u, xa_closed u, xa_held u, xa_status u, xa_depth u, xa_waitOrder u, xa_waitUntil u, xa_queue u, xa_slotWish u, xa_slotLine u, xa_position u, xa_mode u, xa_panicOf u, a, xa_noteFunction u, xa_noteValues u, xa_variables u)
def xs_noteFunction (u : SX) (a : Nat → Int32) : SX := (xa_lineCount u, xa_functionCount u, xa_foundLine u, xa_state u, xa_time u, xa_endingPanic u, xa_outputCount u, xa_channelCount u, xa_goroutineCount u, xa_waitsBegun u, xa_running u, xa_queueLength u, xa_kinds u, xa_argA u, xa_argB u, xa_argC u, xa_blockOf u, xa_endOf u, xa_elseOf u, xa_functionLine u, xa_surelySet u, xa_outputs u, xa_capacity u, xa_fill u, xa_closed u, xa_held u, xa_status u, xa_depth u, xa_waitOrder u, xa_waitUntil u, xa_queue u, xa_slotWish u, xa_slotLine u, xa_position u, xa_mode u, xa_panicOf u, xa_noteCount u, a, xa_noteValues u, xa_variables u)
def xs_noteValues (u : SX) (a : Nat → Int32) : SX := (xa_lineCount u, xa_functionCount u, xa_foundLine u, xa_state u, xa_time u, xa_endingPanic u, xa_outputCount u, xa_channelCount u, xa_goroutineCount u, xa_waitsBegun u, xa_running u, xa_queueLength u, xa_kinds u, xa_argA u, xa_argB u, xa_argC u, xa_blockOf u, xa_endOf u, xa_elseOf u, xa_functionLine u, xa_surelySet u, xa_outputs u, xa_capacity u, xa_fill u, xa_closed u, xa_held u, xa_status u, xa_depth u, xa_waitOrder u, xa_waitUntil u, xa_queue u, xa_slotWish u, xa_slotLine u, xa_position u, xa_mode u, xa_panicOf u, xa_noteCount u, xa_noteFunction u, a, xa_variables u)
def xs_variables (u : SX) (a : Nat → Int32) : SX := (xa_lineCount u, xa_functionCount u, xa_foundLine u, xa_state u, xa_time u, xa_endingPanic u, xa_outputCount u, xa_channelCount u, xa_goroutineCount u, xa_waitsBegun u, xa_running u, xa_queueLength u, xa_kinds u, xa_argA u, xa_argB u, xa_argC u, xa_blockOf u, xa_endOf u, xa_elseOf u, xa_functionLine u, xa_surelySet u, xa_outputs u, xa_capacity u, xa_fill u, xa_closed u, xa_held u, xa_status u, xa_depth u, xa_waitOrder u, xa_waitUntil u, xa_queue u, xa_slotWish u, xa_slotLine u, xa_position u, xa_mode u, xa_panicOf u, xa_noteCount u, xa_noteFunction u, xa_noteValues u, a)
def ya_lines (u : SY) : Int32 := u.1
def ya_bad (u : SY) : Int32 := u.2.1
def ya_state (u : SY) : Int32 := u.2.2.1
def ya_queued (u : SY) : Int32 := u.2.2.2.1
def ya_started (u : SY) : Int32 := u.2.2.2.2.1
def ya_now (u : SY) : Int32 := u.2.2.2.2.2.1
def ya_clock (u : SY) : Int64 := u.2.2.2.2.2.2.1
def ya_turn (u : SY) : Int32 := u.2.2.2.2.2.2.2.1
def ya_off (u : SY) : Int32 := u.2.2.2.2.2.2.2.2.1
def ya_made (u : SY) : Int32 := u.2.2.2.2.2.2.2.2.2.1
def ya_printed (u : SY) : Int32 := u.2.2.2.2.2.2.2.2.2.2.1
def ya_panicValue (u : SY) : Int32 := u.2.2.2.2.2.2.2.2.2.2.2.1
def ya_kind (u : SY) : Nat → Int32 := u.2.2.2.2.2.2.2.2.2.2.2.2.1
def ya_opA (u : SY) : Nat → Int32 := u.2.2.2.2.2.2.2.2.2.2.2.2.2.1
def ya_opB (u : SY) : Nat → Int32 := u.2.2.2.2.2.2.2.2.2.2.2.2.2.2.1
def ya_opC (u : SY) : Nat → Int32 := u.2.2.2.2.2.2.2.2.2.2.2.2.2.2.2.1
def ya_open (u : SY) : Nat → Int32 := u.2.2.2.2.2.2.2.2.2.2.2.2.2.2.2.2.1
def ya_seen (u : SY) : Nat → Int32 := u.2.2.2.2.2.2.2.2.2.2.2.2.2.2.2.2.2.1
def ya_unset (u : SY) : Nat → Int32 := u.2.2.2.2.2.2.2.2.2.2.2.2.2.2.2.2.2.2.1
def ya_status (u : SY) : Nat → Int32 := u.2.2.2.2.2.2.2.2.2.2.2.2.2.2.2.2.2.2.2.1
def ya_depth (u : SY) : Nat → Int32 := u.2.2.2.2.2.2.2.2.2.2.2.2.2.2.2.2.2.2.2.2.1
def ya_since (u : SY) : Nat → Int32 := u.2.2.2.2.2.2.2.2.2.2.2.2.2.2.2.2.2.2.2.2.2.1
def ya_resume (u : SY) : Nat → Int32 := u.2.2.2.2.2.2.2.2.2.2.2.2.2.2.2.2.2.2.2.2.2.2.1
def ya_shocked (u : SY) : Nat → Int32 := u.2.2.2.2.2.2.2.2.2.2.2.2.2.2.2.2.2.2.2.2.2.2.2.1
def ya_queue (u : SY) : Nat → Int32 := u.2.2.2.2.2.2.2.2.2.2.2.2.2.2.2.2.2.2.2.2.2.2.2.2.1
def ya_until (u : SY) : Nat → Int64 := u.2.2.2.2.2.2.2.2.2.2.2.2.2.2.2.2.2.2.2.2.2.2.2.2.2.1
def ya_channels (u : SY) : Nat → Int32 := u.2.2.2.2.2.2.2.2.2.2.2.2.2.2.2.2.2.2.2.2.2.2.2.2.2.2.1
def ya_pc (u : SY) : Nat → Int32 := u.2.2.2.2.2.2.2.2.2.2.2.2.2.2.2.2.2.2.2.2.2.2.2.2.2.2.2.1
def ya_vars (u : SY) : Nat → Int32 := u.2.2.2.2.2.2.2.2.2.2.2.2.2.2.2.2.2.2.2.2.2.2.2.2.2.2.2.2.1
def ya_noted (u : SY) : Nat → Int32 := u.2.2.2.2.2.2.2.2.2.2.2.2.2.2.2.2.2.2.2.2.2.2.2.2.2.2.2.2.2.1
def ya_noteOf (u : SY) : Nat → Int32 := u.2.2.2.2.2.2.2.2.2.2.2.2.2.2.2.2.2.2.2.2.2.2.2.2.2.2.2.2.2.2.1
def ya_noteB (u : SY) : Nat → Int32 := u.2.2.2.2.2.2.2.2.2.2.2.2.2.2.2.2.2.2.2.2.2.2.2.2.2.2.2.2.2.2.2.1
def ya_noteC (u : SY) : Nat → Int32 := u.2.2.2.2.2.2.2.2.2.2.2.2.2.2.2.2.2.2.2.2.2.2.2.2.2.2.2.2.2.2.2.2.1
def ya_asNote (u : SY) : Nat → Int32 := u.2.2.2.2.2.2.2.2.2.2.2.2.2.2.2.2.2.2.2.2.2.2.2.2.2.2.2.2.2.2.2.2.2.1
def ya_panics (u : SY) : Nat → Int32 := u.2.2.2.2.2.2.2.2.2.2.2.2.2.2.2.2.2.2.2.2.2.2.2.2.2.2.2.2.2.2.2.2.2.2.1
def ya_panicWith (u : SY) : Nat → Int32 := u.2.2.2.2.2.2.2.2.2.2.2.2.2.2.2.2.2.2.2.2.2.2.2.2.2.2.2.2.2.2.2.2.2.2.2.1
def ya_capacity (u : SY) : Nat → Int32 := u.2.2.2.2.2.2.2.2.2.2.2.2.2.2.2.2.2.2.2.2.2.2.2.2.2.2.2.2.2.2.2.2.2.2.2.2.1
def ya_held (u : SY) : Nat → Int32 := u.2.2.2.2.2.2.2.2.2.2.2.2.2.2.2.2.2.2.2.2.2.2.2.2.2.2.2.2.2.2.2.2.2.2.2.2.2.1
def ya_closed (u : SY) : Nat → Int32 := u.2.2.2.2.2.2.2.2.2.2.2.2.2.2.2.2.2.2.2.2.2.2.2.2.2.2.2.2.2.2.2.2.2.2.2.2.2.2.1
def ya_values (u : SY) : Nat → Int32 := u.2.2.2.2.2.2.2.2.2.2.2.2.2.2.2.2.2.2.2.2.2.2.2.2.2.2.2.2.2.2.2.2.2.2.2.2.2.2.2.1
def ya_out (u : SY) : Nat → Int32 := u.2.2.2.2.2.2.2.2.2.2.2.2.2.2.2.2.2.2.2.2.2.2.2.2.2.2.2.2.2.2.2.2.2.2.2.2.2.2.2.2
def ys_lines (u : SY) (a : Int32) : SY := (a, ya_bad u, ya_state u, ya_queued u, ya_started u, ya_now u, ya_clock u, ya_turn u, ya_off u, ya_made u, ya_printed u, ya_panicValue u, ya_kind u, ya_opA u, ya_opB u, ya_opC u, ya_open u, ya_seen u, ya_unset u, ya_status u, ya_depth u, ya_since u, ya_resume u, ya_shocked u, ya_queue u, ya_until u, ya_channels u, ya_pc u, ya_vars u, ya_noted u, ya_noteOf u, ya_noteB u, ya_noteC u, ya_asNote u, ya_panics u, ya_panicWith u, ya_capacity u, ya_held u, ya_closed u, ya_values u, ya_out u)
def ys_bad (u : SY) (a : Int32) : SY := (ya_lines u, a, ya_state u, ya_queued u, ya_started u, ya_now u, ya_clock u, ya_turn u, ya_off u, ya_made u, ya_printed u, ya_panicValue u, ya_kind u, ya_opA u, ya_opB u, ya_opC u, ya_open u, ya_seen u, ya_unset u, ya_status u, ya_depth u, ya_since u, ya_resume u, ya_shocked u, ya_queue u, ya_until u, ya_channels u, ya_pc u, ya_vars u, ya_noted u, ya_noteOf u, ya_noteB u, ya_noteC u, ya_asNote u, ya_panics u, ya_panicWith u, ya_capacity u, ya_held u, ya_closed u, ya_values u, ya_out u)
def ys_state (u : SY) (a : Int32) : SY := (ya_lines u, ya_bad u, a, ya_queued u, ya_started u, ya_now u, ya_clock u, ya_turn u, ya_off u, ya_made u, ya_printed u, ya_panicValue u, ya_kind u, ya_opA u, ya_opB u, ya_opC u, ya_open u, ya_seen u, ya_unset u, ya_status u, ya_depth u, ya_since u, ya_resume u, ya_shocked u, ya_queue u, ya_until u, ya_channels u, ya_pc u, ya_vars u, ya_noted u, ya_noteOf u, ya_noteB u, ya_noteC u, ya_asNote u, ya_panics u, ya_panicWith u, ya_capacity u, ya_held u, ya_closed u, ya_values u, ya_out u)
def ys_queued (u : SY) (a : Int32) : SY := (ya_lines u, ya_bad u, ya_state u, a, ya_started u, ya_now u, ya_clock u, ya_turn u, ya_off u, ya_made u, ya_printed u, ya_panicValue u, ya_kind u, ya_opA u, ya_opB u, ya_opC u, ya_open u, ya_seen u, ya_unset u, ya_status u, ya_depth u, ya_since u, ya_resume u, ya_shocked u, ya_queue u, ya_until u, ya_channels u, ya_pc u, ya_vars u, ya_noted u, ya_noteOf u, ya_noteB u, ya_noteC u, ya_asNote u, ya_panics u, ya_panicWith u, ya_capacity u, ya_held u, ya_closed u, ya_values u, ya_out u)
def ys_started (u : SY) (a : Int32) : SY := (ya_lines u, ya_bad u, ya_state u, ya_queued u, a, ya_now u, ya_clock u, ya_turn u, ya_off u, ya_made u, ya_printed u, ya_panicValue u, ya_kind u, ya_opA u, ya_opB u, ya_opC u, ya_open u, ya_seen u, ya_unset u, ya_status u, ya_depth u, ya_since u, ya_resume u, ya_shocked u, ya_queue u, ya_until u, ya_channels u, ya_pc u, ya_vars u, ya_noted u, ya_noteOf u, ya_noteB u, ya_noteC u, ya_asNote u, ya_panics u, ya_panicWith u, ya_capacity u, ya_held u, ya_closed u, ya_values u, ya_out u)
def ys_now (u : SY) (a : Int32) : SY := (ya_lines u, ya_bad u, ya_state u, ya_queued u, ya_started u, a, ya_clock u, ya_turn u, ya_off u, ya_made u, ya_printed u, ya_panicValue u, ya_kind u, ya_opA u, ya_opB u, ya_opC u, ya_open u, ya_seen u, ya_unset u, ya_status u, ya_depth u, ya_since u, ya_resume u, ya_shocked u, ya_queue u, ya_until u, ya_channels u, ya_pc u, ya_vars u, ya_noted u, ya_noteOf u, ya_noteB u, ya_noteC u, ya_asNote u, ya_panics u, ya_panicWith u, ya_capacity u, ya_held u, ya_closed u, ya_values u, ya_out u)
def ys_clock (u : SY) (a : Int64) : SY := (ya_lines u, ya_bad u, ya_state u, ya_queued u, ya_started u, ya_now u, a, ya_turn u, ya_off u, ya_made u, ya_printed u, ya_panicValue u, ya_kind u, ya_opA u, ya_opB u, ya_opC u, ya_open u, ya_seen u, ya_unset u, ya_status u, ya_depth u, ya_since u, ya_resume u, ya_shocked u, ya_queue u, ya_until u, ya_channels u, ya_pc u, ya_vars u, ya_noted u, ya_noteOf u, ya_noteB u, ya_noteC u, ya_asNote u, ya_panics u, ya_panicWith u, ya_capacity u, ya_held u, ya_closed u, ya_values u, ya_out u)
def ys_turn (u : SY) (a : Int32) : SY := (ya_lines u, ya_bad u, ya_state u, ya_queued u, ya_started u, ya_now u, ya_clock u, a, ya_off u, ya_made u, ya_printed u, ya_panicValue u, ya_kind u, ya_opA u, ya_opB u, ya_opC u, ya_open u, ya_seen u, ya_unset u, ya_status u, ya_depth u, ya_since u, ya_resume u, ya_shocked u, ya_queue u, ya_until u, ya_channels u, ya_pc u, ya_vars u, ya_noted u, ya_noteOf u, ya_noteB u, ya_noteC u, ya_asNote u, ya_panics u, ya_panicWith u, ya_capacity u, ya_held u, ya_closed u, ya_values u, ya_out u)
def ys_off (u : SY) (a : Int32) : SY := (ya_lines u, ya_bad u, ya_state u, ya_queued u, ya_started u, ya_now u, ya_clock u, ya_turn u, a, ya_made u, ya_printed u, ya_panicValue u, ya_kind u, ya_opA u, ya_opB u, ya_opC u, ya_open u, ya_seen u, ya_unset u, ya_status u, ya_depth u, ya_since u, ya_resume u, ya_shocked u, ya_queue u, ya_until u, ya_channels u, ya_pc u, ya_vars u, ya_noted u, ya_noteOf u, ya_noteB u, ya_noteC u, ya_asNote u, ya_panics u, ya_panicWith u, ya_capacity u, ya_held u, ya_closed u, ya_values u, ya_out u)
def ys_made (u : SY) (a : Int32) : SY := (ya_lines u, ya_bad u, ya_state u, ya_queued u, ya_started u, ya_now u, ya_clock u, ya_turn u, ya_off u, a, ya_printed u, ya_panicValue u, ya_kind u, ya_opA u, ya_opB u, ya_opC u, ya_open u, ya_seen u, ya_unset u, ya_status u, ya_depth u, ya_since u, ya_resume u, ya_shocked u, ya_queue u, ya_until u, ya_channels u, ya_pc u, ya_vars u, ya_noted u, ya_noteOf u, ya_noteB u, ya_noteC u, ya_asNote u, ya_panics u, ya_panicWith u, ya_capacity u, ya_held u, ya_closed u, ya_values u, ya_out u)
def ys_printed (u : SY) (a : Int32) : SY := (ya_lines u, ya_bad u, ya_state u, ya_queued u, ya_started u, ya_now u, ya_clock u, ya_turn u, ya_off u, ya_made u, a, ya_panicValue u, ya_kind u, ya_opA u, ya_opB u, ya_opC u, ya_open u, ya_seen u, ya_unset u, ya_status u, ya_depth u, ya_since u, ya_resume u, ya_shocked u, ya_queue u, ya_until u, ya_channels u, ya_pc u, ya_vars u, ya_noted u, ya_noteOf u, ya_noteB u, ya_noteC u, ya_asNote u, ya_panics u, ya_panicWith u, ya_capacity u, ya_held u, ya_closed u, ya_values u, ya_out u)
def ys_panicValue (u : SY) (a : Int32) : SY := (ya_lines u, ya_bad u, ya_state u, ya_queued u, ya_started u, ya_now u, ya_clock u, ya_turn u, ya_off u, ya_made u, ya_printed u, a, ya_kind u, ya_opA u, ya_opB u, ya_opC u, ya_open u, ya_seen u, ya_unset u, ya_status u, ya_depth u, ya_since u, ya_resume u, ya_shocked u, ya_queue u, ya_until u, ya_channels u, ya_pc u, ya_vars u, ya_noted u, ya_noteOf u, ya_noteB u, ya_noteC u, ya_asNote u, ya_panics u, ya_panicWith u, ya_capacity u, ya_held u, ya_closed u, ya_values u, ya_out u)
def ys_kind (u : SY) (a : Nat → Int32) : SY := (ya_lines u, ya_bad u, ya_state u, ya_queued u, ya_started u, ya_now u, ya_clock u, ya_turn u, ya_off u, ya_made u, ya_printed u, ya_panicValue u, a, ya_opA u, ya_opB u, ya_opC u, ya_open u, ya_seen u, ya_unset u, ya_status u, ya_depth u, ya_since u, ya_resume u, ya_shocked u, ya_queue u, ya_until u, ya_channels u, ya_pc u, ya_vars u, ya_noted u, ya_noteOf u, ya_noteB u, ya_noteC u, ya_asNote u, ya_panics u, ya_panicWith u, ya_capacity u, ya_held u, ya_closed u, ya_values u, ya_out u)
def ys_opA (u : SY) (a : Nat → Int32) : SY := (ya_lines u, ya_bad u, ya_state u, ya_queued u, ya_started u, ya_now u, ya_clock u, ya_turn u, ya_off u, ya_made u, ya_printed u, ya_panicValue u, ya_kind u, a, ya_opB u, ya_opC u, ya_open u, ya_seen u, ya_unset u, ya_status u, ya_depth u, ya_since u, ya_resume u, ya_shocked u, ya_queue u, ya_until u, ya_channels u, ya_pc u, ya_vars u, ya_noted u, ya_noteOf u, ya_noteB u, ya_noteC u, ya_asNote u, ya_panics u, ya_panicWith u, ya_capacity u, ya_held u, ya_closed u, ya_values u, ya_out u)
def ys_opB (u : SY) (a : Nat → Int32) : SY := (ya_lines u, ya_bad u, ya_state u, ya_queued u, ya_started u, ya_now u, ya_clock u, ya_turn u, ya_off u, ya_made u, ya_printed u, ya_panicValue u, ya_kind u, ya_opA u, a, ya_opC u, ya_open u, ya_seen u, ya_unset u, ya_status u, ya_depth u, ya_since u, ya_resume u, ya_shocked u, ya_queue u, ya_until u, ya_channels u, ya_pc u, ya_vars u, ya_noted u, ya_noteOf u, ya_noteB u, ya_noteC u, ya_asNote u, ya_panics u, ya_panicWith u, ya_capacity u, ya_held u, ya_closed u, ya_values u, ya_out u)
def ys_opC (u : SY) (a : Nat → Int32) : SY := (ya_lines u, ya_bad u, ya_state u, ya_queued u, ya_started u, ya_now u, ya_clock u, ya_turn u, ya_off u, ya_made u, ya_printed u, ya_panicValue u, ya_kind u, ya_opA u, ya_opB u, a, ya_open u, ya_seen u, ya_unset u, ya_status u, ya_depth u, ya_since u, ya_resume u, ya_shocked u, ya_queue u, ya_until u, ya_channels u, ya_pc u, ya_vars u, ya_noted u, ya_noteOf u, ya_noteB u, ya_noteC u, ya_asNote u, ya_panics u, ya_panicWith u, ya_capacity u, ya_held u, ya_closed u, ya_values u, ya_out u)
def ys_open (u : SY) (a : Nat → Int32) : SY := (ya_lines u, ya_bad u, ya_state u, ya_queued u, ya_started u, ya_now u, ya_clock u, ya_turn u, ya_off u, ya_made u, ya_printed u, ya_panicValue u, ya_kind u, ya_opA u, ya_opB u, ya_opC u, a, ya_seen u, ya_unset u, ya_status u, ya_depth u, ya_since u, ya_resume u, ya_shocked u, ya_queue u, ya_until u, ya_channels u, ya_pc u, ya_vars u, ya_noted u, ya_noteOf u, ya_noteB u, ya_noteC u, ya_asNote u, ya_panics u, ya_panicWith u, ya_capacity u, ya_held u, ya_closed u, ya_values u, ya_out u)
def ys_seen (u : SY) (a : Nat → Int32) : SY := (ya_lines u, ya_bad u, ya_state u, ya_queued u, ya_started u, ya_now u, ya_clock u, ya_turn u, ya_off u, ya_made u, ya_printed u, ya_panicValue u, ya_kind u, ya_opA u, ya_opB u, ya_opC u, ya_open u, a, ya_unset u, ya_status u, ya_depth u, ya_since u, ya_resume u, ya_shocked u, ya_queue u, ya_until u, ya_channels u, ya_pc u, ya_vars u, ya_noted u, ya_noteOf u, ya_noteB u, ya_noteC u, ya_asNote u, ya_panics u, ya_panicWith u, ya_capacity u, ya_held u, ya_closed u, ya_values u, ya_out u)
def ys_unset (u : SY) (a : Nat → Int32) : SY := (ya_lines u, ya_bad u, ya_state u, ya_queued u, ya_started u, ya_now u, ya_clock u, ya_turn u, ya_off u, ya_made u, ya_printed u, ya_panicValue u, ya_kind u, ya_opA u, ya_opB u, ya_opC u, ya_open u, ya_seen u, a, ya_status u, ya_depth u, ya_since u, ya_resume u, ya_shocked u, ya_queue u, ya_until u, ya_channels u, ya_pc u, ya_vars u, ya_noted u, ya_noteOf u, ya_noteB u, ya_noteC u, ya_asNote u, ya_panics u, ya_panicWith u, ya_capacity u, ya_held u, ya_closed u, ya_values u, ya_out u)
def ys_status (u : SY) (a : Nat → Int32) : SY := (ya_lines u, ya_bad u, ya_state u, ya_queued u, ya_started u, ya_now u, ya_clock u, ya_turn u, ya_off u, ya_made u, ya_printed u, ya_panicValue u, ya_kind u, ya_opA u, ya_opB u, ya_opC u, ya_open u, ya_seen u, ya_unset u, a, ya_depth u, ya_since u, ya_resume u, ya_shocked u, ya_queue u, ya_until u, ya_channels u, ya_pc u, ya_vars u, ya_noted u, ya_noteOf u, ya_noteB u, ya_noteC u, ya_asNote u, ya_panics u, ya_panicWith u, ya_capacity u, ya_held u, ya_closed u, ya_values u, ya_out u)
def ys_depth (u : SY) (a : Nat → Int32) : SY := (ya_lines u, ya_bad u, ya_state u, ya_queued u, ya_started u, ya_now u, ya_clock u, ya_turn u, ya_off u, ya_made u, ya_printed u, ya_panicValue u, ya_kind u, ya_opA u, ya_opB u, ya_opC u, ya_open u, ya_seen u, ya_unset u, ya_status u, a, ya_since u, ya_resume u, ya_shocked u, ya_queue u, ya_until u, ya_channels u, ya_pc u, ya_vars u, ya_noted u, ya_noteOf u, ya_noteB u, ya_noteC u, ya_asNote u, ya_panics u, ya_panicWith u, ya_capacity u, ya_held u, ya_closed u, ya_values u, ya_out u)
def ys_since (u : SY) (a : Nat → Int32) : SY := (ya_lines u, ya_bad u, ya_state u, ya_queued u, ya_started u, ya_now u, ya_clock u, ya_turn u, ya_off u, ya_made u, ya_printed u, ya_panicValue u, ya_kind u, ya_opA u, ya_opB u, ya_opC u, ya_open u, ya_seen u, ya_unset u, ya_status u, ya_depth u, a, ya_resume u, ya_shocked u, ya_queue u, ya_until u, ya_channels u, ya_pc u, ya_vars u, ya_noted u, ya_noteOf u, ya_noteB u, ya_noteC u, ya_asNote u, ya_panics u, ya_panicWith u, ya_capacity u, ya_held u, ya_closed u, ya_values u, ya_out u)
def ys_resume (u : SY) (a : Nat → Int32) : SY := (ya_lines u, ya_bad u, ya_state u, ya_queued u, ya_started u, ya_now u, ya_clock u, ya_turn u, ya_off u, ya_made u, ya_printed u, ya_panicValue u, ya_kind u, ya_opA u, ya_opB u, ya_opC u, ya_open u, ya_seen u, ya_unset u, ya_status u, ya_depth u, ya_since u, a, ya_shocked u, ya_queue u, ya_until u, ya_channels u, ya_pc u, ya_vars u, ya_noted u, ya_noteOf u, ya_noteB u, ya_noteC u, ya_asNote u, ya_panics u, ya_panicWith u, ya_capacity u, ya_held u, ya_closed u, ya_values u, ya_out u)
def ys_shocked (u : SY) (a : Nat → Int32) : SY := (ya_lines u, ya_bad u, ya_state u, ya_queued u, ya_started u, ya_now u, ya_clock u, ya_turn u, ya_off u, ya_made u, ya_printed u, ya_panicValue u, ya_kind u, ya_opA u, ya_opB u, ya_opC u, ya_open u, ya_seen u, ya_unset u, ya_status u, ya_depth u, ya_since u, ya_resume u, a, ya_queue u, ya_until u, ya_channels u, ya_pc u, ya_vars u, ya_noted u, ya_noteOf u, ya_noteB u, ya_noteC u, ya_asNote u, ya_panics u, ya_panicWith u, ya_capacity u, ya_held u, ya_closed u, ya_values u, ya_out u)
def ys_queue (u : SY) (a : Nat → Int32) : SY := (ya_lines u, ya_bad u, ya_state u, ya_queued u, ya_started u, ya_now u, ya_clock u, ya_turn u, ya_off u, ya_made u, ya_printed u, ya_panicValue u, ya_kind u, ya_opA u, ya_opB u, ya_opC u, ya_open u, ya_seen u, ya_unset u, ya_status u, ya_depth u, ya_since u, ya_resume u, ya_shocked u, a, ya_until u, ya_channels u, ya_pc u, ya_vars u, ya_noted u, ya_noteOf u, ya_noteB u, ya_noteC u, ya_asNote u, ya_panics u, ya_panicWith u, ya_capacity u, ya_held u, ya_closed u, ya_values u, ya_out u)
def ys_until (u : SY) (a : Nat → Int64) : SY := (ya_lines u, ya_bad u, ya_state u, ya_queued u, ya_started u, ya_now u, ya_clock u, ya_turn u, ya_off u, ya_made u, ya_printed u, ya_panicValue u, ya_kind u, ya_opA u, ya_opB u, ya_opC u, ya_open u, ya_seen u, ya_unset u, ya_status u, ya_depth u, ya_since u, ya_resume u, ya_shocked u, ya_queue u, a, ya_channels u, ya_pc u, ya_vars u, ya_noted u, ya_noteOf u, ya_noteB u, ya_noteC u, ya_asNote u, ya_panics u, ya_panicWith u, ya_capacity u, ya_held u, ya_closed u, ya_values u, ya_out u)
def ys_channels (u : SY) (a : Nat → Int32) : SY := (ya_lines u, ya_bad u, ya_state u, ya_queued u, ya_started u, ya_now u, ya_clock u, ya_turn u, ya_off u, ya_made u, ya_printed u, ya_panicValue u, ya_kind u, ya_opA u, ya_opB u, ya_opC u, ya_open u, ya_seen u, ya_unset u, ya_status u, ya_depth u, ya_since u, ya_resume u, ya_shocked u, ya_queue u, ya_until u, a, ya_pc u, ya_vars u, ya_noted u, ya_noteOf u, ya_noteB u, ya_noteC u, ya_asNote u, ya_panics u, ya_panicWith u, ya_capacity u, ya_held u, ya_closed u, ya_values u, ya_out u)
def ys_pc (u : SY) (a : Nat → Int32) : SY := (ya_lines u, ya_bad u, ya_state u, ya_queued u, ya_started u, ya_now u, ya_clock u, ya_turn u, ya_off u, ya_made u, ya_printed u, ya_panicValue u, ya_kind u, ya_opA u, ya_opB u, ya_opC u, ya_open u, ya_seen u, ya_unset u, ya_status u, ya_depth u, ya_since u, ya_resume u, ya_shocked u, ya_queue u, ya_until u, ya_channels u, a, ya_vars u, ya_noted u, ya_noteOf u, ya_noteB u, ya_noteC u, ya_asNote u, ya_panics u, ya_panicWith u, ya_capacity u, ya_held u, ya_closed u, ya_values u, ya_out u)
def ys_vars (u : SY) (a : Nat → Int32) : SY := (ya_lines u, ya_bad u, ya_state u, ya_queued u, ya_started u, ya_now u, ya_clock u, ya_turn u, ya_off u, ya_made u, ya_printed u, ya_panicValue u, ya_kind u, ya_opA u, ya_opB u, ya_opC u, ya_open u, ya_seen u, ya_unset u, ya_status u, ya_depth u, ya_since u, ya_resume u, ya_shocked u, ya_queue u, ya_until u, ya_channels u, ya_pc u, a, ya_noted u, ya_noteOf u, ya_noteB u, ya_noteC u, ya_asNote u, ya_panics u, ya_panicWith u, ya_capacity u, ya_held u, ya_closed u, ya_values u, ya_out u)
def ys_noted (u : SY) (a : Nat → Int32) : SY := (ya_lines u, ya_bad u, ya_state u, ya_queued u, ya_started u, ya_now u, ya_clock u, ya_turn u, ya_off u, ya_made u, ya_printed u, ya_panicValue u, ya_kind u, ya_opA u, ya_opB u, ya_opC u, ya_open u, ya_seen u, ya_unset u, ya_status u, ya_depth u, ya_since u, ya_resume u, ya_shocked u, ya_queue u, ya_until u, ya_channels u, ya_pc u, ya_vars u, a, ya_noteOf u, ya_noteB u, ya_noteC u, ya_asNote u, ya_panics u, ya_panicWith u, ya_capacity u, ya_held u, ya_closed u, ya_values u, ya_out u)
def ys_noteOf (u : SY) (a : Nat → Int32) : SY := (ya_lines u, ya_bad u, ya_state u, ya_queued u, ya_started u, ya_now u, ya_clock u, ya_turn u, ya_off u, ya_made u, ya_printed u, ya_panicValue u, ya_kind u, ya_opA u, ya_opB u, ya_opC u, ya_open u, ya_seen u, ya_unset u, ya_status u, ya_depth u, ya_since u, ya_resume u, ya_shocked u, ya_queue u, ya_until u, ya_channels u, ya_pc u, ya_vars u, ya_noted u, a, ya_noteB u, ya_noteC u, ya_asNote u, ya_panics u, ya_panicWith u, ya_capacity u, ya_held u, ya_closed u, ya_values u, ya_out u)
def ys_noteB (u : SY) (a : Nat → Int32) : SY := (ya_lines u, ya_bad u, ya_state u, ya_queued u, ya_started u, ya_now u, ya_clock u, ya_turn u, ya_off u, ya_made u, ya_printed u, ya_panicValue u, ya_kind u, ya_opA u, ya_opB u, ya_opC u, ya_open u, ya_seen u, ya_unset u, ya_status u, ya_depth u, ya_since u, ya_resume u, ya_shocked u, ya_queue u, ya_until u, ya_channels u, ya_pc u, ya_vars u, ya_noted u, ya_noteOf u, a, ya_noteC u, ya_asNote u, ya_panics u, ya_panicWith u, ya_capacity u, ya_held u, ya_closed u, ya_values u, ya_out u)
def ys_noteC (u : SY) (a : Nat → Int32) : SY := (ya_lines u, ya_bad u, ya_state u, ya_queued u, ya_started u, ya_now u, ya_clock u, ya_turn u, ya_off u, ya_made u, ya_printed u, ya_panicValue u, ya_kind u, ya_opA u, ya_opB u, ya_opC u, ya_open u, ya_seen u, ya_unset u, ya_status u, ya_depth u, ya_since u, ya_resume u, ya_shocked u, ya_queue u, ya_until u, ya_channels u, ya_pc u, ya_vars u, ya_noted u, ya_noteOf u, ya_noteB u, a, ya_asNote u, ya_panics u, ya_panicWith u, ya_capacity u, ya_held u, ya_closed u, ya_values u, ya_out u)
def ys_asNote (u : SY) (a : Nat → Int32) : SY := (ya_lines u, ya_bad u, ya_state u, ya_queued u, ya_started u, ya_now u, ya_clock u, ya_turn u, ya_off u, ya_made u, ya_printed u, ya_panicValue u, ya_kind u, ya_opA u, ya_opB u, ya_opC u, ya_open u, ya_seen u, ya_unset u, ya_status u, ya_depth u, ya_since u, ya_resume u, ya_shocked u, ya_queue u, ya_until u, ya_channels u, ya_pc u, ya_vars u, ya_noted u, ya_noteOf u, ya_noteB u, ya_noteC u, a, ya_panics u, ya_panicWith u, ya_capacity u, ya_held u, ya_closed u, ya_values u, ya_out u)
def ys_panics (u : SY) (a : Nat → Int32) : SY := (ya_lines u, ya_bad u, ya_state u, ya_queued u, ya_started u, ya_now u, ya_clock u, ya_turn u, ya_off u, ya_made u, ya_printed u, ya_panicValue u, ya_kind u, ya_opA u, ya_opB u, ya_opC u, ya_open u, ya_seen u, ya_unset u, ya_status u, ya_depth u, ya_since u, ya_resume u, ya_shocked u, ya_queue u, ya_until u, ya_channels u, ya_pc u, ya_vars u, ya_noted u, ya_noteOf u, ya_noteB u, ya_noteC u, ya_asNote u, a, ya_panicWith u, ya_capacity u, ya_held u, ya_closed u, ya_values u, ya_out u)
def ys_panicWith (u : SY) (a : Nat → Int32) : SY := (ya_lines u, ya_bad u, ya_state u, ya_queued u, ya_started u, ya_now u, ya_clock u, ya_turn u, ya_off u, ya_made u, ya_printed u, ya_panicValue u, ya_kind u, ya_opA u, ya_opB u, ya_opC u, ya_open u, ya_seen u, ya_unset u, ya_status u, ya_depth u, ya_since u, ya_resume u, ya_shocked u, ya_queue u, ya_until u, ya_channels u, ya_pc u, ya_vars u, ya_noted u, ya_noteOf u, ya_noteB u, ya_noteC u, ya_asNote u, ya_panics u, a, ya_capacity u, ya_held u, ya_closed u, ya_values u, ya_out u)
def ys_capacity (u : SY) (a : Nat → Int32) : SY := (ya_lines u, ya_bad u, ya_state u, ya_queued u, ya_started u, ya_now u, ya_clock u, ya_turn u, ya_off u, ya_made u, ya_printed u, ya_panicValue u, ya_kind u, ya_opA u, ya_opB u, ya_opC u, ya_open u, ya_seen u, ya_unset u, ya_status u, ya_depth u, ya_since u, ya_resume u, ya_shocked u, ya_queue u, ya_until u, ya_channels u, ya_pc u, ya_vars u, ya_noted u, ya_noteOf u, ya_noteB u, ya_noteC u, ya_asNote u, ya_panics u, ya_panicWith u, a, ya_held u, ya_closed u, ya_values u, ya_out u)
def ys_held (u : SY) (a : Nat → Int32) : SY := (ya_lines u, ya_bad u, ya_state u, ya_queued u, ya_started u, ya_now u, ya_clock u, ya_turn u, ya_off u, ya_made u, ya_printed u, ya_panicValue u, ya_kind u, ya_opA u, ya_opB u, ya_opC u, ya_open u, ya_seen u, ya_unset u, ya_status u, ya_depth u, ya_since u, ya_resume u, ya_shocked u, ya_queue u, ya_until u, ya_channels u, ya_pc u, ya_vars u, ya_noted u, ya_noteOf u, ya_noteB u, ya_noteC u, ya_asNote u, ya_panics u, ya_panicWith u, ya_capacity u, a, ya_closed u, ya_values u, ya_out u)
def ys_closed (u : SY) (a : Nat → Int32) : SY := (ya_lines u, ya_bad u, ya_state u, ya_queued u, ya_started u, ya_now u, ya_clock u, ya_turn u, ya_off u, ya_made u, ya_printed u, ya_panicValue u, ya_kind u, ya_opA u, ya_opB u, ya_opC u, ya_open u, ya_seen u, ya_unset u, ya_status u, ya_depth u, ya_since u, ya_resume u, ya_shocked u, ya_queue u, ya_until u, ya_channels u, ya_pc u, ya_vars u, ya_noted u, ya_noteOf u, ya_noteB u, ya_noteC u, ya_asNote u, ya_panics u, ya_panicWith u, ya_capacity u, ya_held u, a, ya_values u, ya_out u)
def ys_values (u : SY) (a : Nat → Int32) : SY := (ya_lines u, ya_bad u, ya_state u, ya_queued u, ya_started u, ya_now u, ya_clock u, ya_turn u, ya_off u, ya_made u, ya_printed u, ya_panicValue u, ya_kind u, ya_opA u, ya_opB u, ya_opC u, ya_open u, ya_seen u, ya_unset u, ya_status u, ya_depth u, ya_since u, ya_resume u, ya_shocked u, ya_queue u, ya_until u, ya_channels u, ya_pc u, ya_vars u, ya_noted u, ya_noteOf u, ya_noteB u, ya_noteC u, ya_asNote u, ya_panics u, ya_panicWith u, ya_capacity u, ya_held u, ya_closed u, a, ya_out u)
def ys_out (u : SY) (a : Nat → Int32) : SY := (ya_lines u, ya_bad u, ya_state u, ya_queued u, ya_started u, ya_now u, ya_clock u, ya_turn u, ya_off u, ya_made u, ya_printed u, ya_panicValue u, ya_kind u, ya_opA u, ya_opB u, ya_opC u, ya_open u, ya_seen u, ya_unset u, ya_status u, ya_depth u, ya_since u, ya_resume u, ya_shocked u, ya_queue u, ya_until u, ya_channels u, ya_pc u, ya_vars u, ya_noted u, ya_noteOf u, ya_noteB u, ya_noteC u, ya_asNote u, ya_panics u, ya_panicWith u, ya_capacity u, ya_held u, ya_closed u, ya_values u, a)
end
section
/-! rows of the kit's PURE-ROWS, pasted -/
theorem pk_us {f : Nat → Int32} {k : Nat} {x : Int32} : upd f k x k = x := if_pos rfl
theorem pk_un {f : Nat → Int32} {k j : Nat} {x : Int32} (h : j ≠ k) : upd f k x j = f j := if_neg h
theorem pk_uLs {f : Nat → Int64} {k : Nat} {x : Int64} : vp_updL f k x k = x := if_pos rfl
theorem pk_uLn {f : Nat → Int64} {k j : Nat} {x : Int64} (h : j ≠ k) : vp_updL f k x j = f j := if_neg h
theorem pk_sub {a b : Nat} (h : b ≤ a) : nI a - nI b = nI (a - b) := by
  obtain ⟨c, rfl⟩ : ∃ c, a = c + b := ⟨a - b, by omega⟩
  rw [← nI_add, Int32.add_sub_cancel, Nat.add_sub_cancel]
theorem pk_m1 (n : Nat) : nI (n + 1) + (-1) = nI n := by
  rw [← nI_1, Int32.add_assoc, show (1 : Int32) + (-1) = 0 from rfl, Int32.add_zero]
theorem pk_mul (a b : Nat) : nI a * nI b = nI (a * b) := (Int32.ofNat_mul a b).symm

/-! X: small methods -/
theorem xe_top {g d : Nat} : ((nI g * 4) + nI (d + 1)) - 1 = nI (4 * g + d) := by
  rw [show (4 : Int32) = nI 4 from rfl, pk_mul, nI_add, show (1 : Int32) = nI 1 from rfl, pk_sub (by omega)]
  exact congrArg nI (by omega)
theorem xp_topOf {post : Int32 → Prop} {u : SX} {g d : Nat} (hg : g < 12) (hd : xa_depth u g = nI (d + 1)) (h : post (nI (4 * g + d))) : wpX_topOf post u (nI g) := by
  obtain ⟨f_lineCount, f_functionCount, f_foundLine, f_state, f_time, f_endingPanic, f_outputCount, f_channelCount, f_goroutineCount, f_waitsBegun, f_running, f_queueLength, a_kinds, a_argA, a_argB, a_argC, a_blockOf, a_endOf, a_elseOf, a_functionLine, a_surelySet, a_outputs, a_capacity, a_fill, a_closed, a_held, a_status, a_depth, a_waitOrder, a_waitUntil, a_queue, a_slotWish, a_slotLine, a_position, a_mode, a_panicOf, a_noteCount, a_noteFunction, a_noteValues, a_variables⟩ := u
  refine ⟨vp_in_nI hg (by decide), ?_⟩
  have e : a_depth g = nI (d + 1) := hd
  rw [nI_clamp (by omega), e, xe_top]
  exact h
theorem xp_panic {post : SX → Prop} {u : SX} {t : Nat} {v : Int32} (ht : t < 48) (h : post (xs_panicOf (xs_mode u (upd (xa_mode u) t 2)) (upd (xa_panicOf u) t v))) : wpX_panic post u (nI t) v := by
  obtain ⟨f_lineCount, f_functionCount, f_foundLine, f_state, f_time, f_endingPanic, f_outputCount, f_channelCount, f_goroutineCount, f_waitsBegun, f_running, f_queueLength, a_kinds, a_argA, a_argB, a_argC, a_blockOf, a_endOf, a_elseOf, a_functionLine, a_surelySet, a_outputs, a_capacity, a_fill, a_closed, a_held, a_status, a_depth, a_waitOrder, a_waitUntil, a_queue, a_slotWish, a_slotLine, a_position, a_mode, a_panicOf, a_noteCount, a_noteFunction, a_noteValues, a_variables⟩ := u
  have e : (nI t).toNatClampNeg = t := nI_clamp (by omega)
  refine ⟨vp_in_nI ht (by decide), nm_r (by rw [e]) ⟨vp_in_nI ht (by decide), nm_r (by rw [e]) ?_⟩⟩
  exact h
theorem xt_eta {post : SX → Prop} {u : SX} (h : post u) : (match u with | (f_lineCount, f_functionCount, f_foundLine, f_state, f_time, f_endingPanic, f_outputCount, f_channelCount, f_goroutineCount, f_waitsBegun, f_running, f_queueLength, a_kinds, a_argA, a_argB, a_argC, a_blockOf, a_endOf, a_elseOf, a_functionLine, a_surelySet, a_outputs, a_capacity, a_fill, a_closed, a_held, a_status, a_depth, a_waitOrder, a_waitUntil, a_queue, a_slotWish, a_slotLine, a_position, a_mode, a_panicOf, a_noteCount, a_noteFunction, a_noteValues, a_variables) => post (f_lineCount, f_functionCount, f_foundLine, f_state, f_time, f_endingPanic, f_outputCount, f_channelCount, f_goroutineCount, f_waitsBegun, f_running, f_queueLength, a_kinds, a_argA, a_argB, a_argC, a_blockOf, a_endOf, a_elseOf, a_functionLine, a_surelySet, a_outputs, a_capacity, a_fill, a_closed, a_held, a_status, a_depth, a_waitOrder, a_waitUntil, a_queue, a_slotWish, a_slotLine, a_position, a_mode, a_panicOf, a_noteCount, a_noteFunction, a_noteValues, a_variables)) := h
end
section
/-! the open blocks before a line, as a list: the innermost first -/
abbrev st_op (k : Int32) : Prop := k = 0 ∨ k = 2 ∨ k = 4 ∨ k = 6
abbrev st_sec (k : Int32) : Prop := k = 7 ∨ k = 8 ∨ k = 9 ∨ k = 29
def st_s (K : Nat → Int32) : Nat → List Nat
  | 0 => []
  | i + 1 => if K i = 1 then (st_s K i).tail else if st_op (K i) then i :: st_s K i else st_s K i
theorem st_op1 {k : Int32} (h : st_op k) : ¬ k = 1 := by
  rcases h with h | h | h | h <;> (subst h; decide)
theorem st_end {K : Nat → Int32} {i : Nat} (h : K i = 1) : st_s K (i + 1) = (st_s K i).tail := by
  show (if K i = 1 then _ else _) = _
  rw [if_pos h]
theorem st_opn {K : Nat → Int32} {i : Nat} (h : st_op (K i)) : st_s K (i + 1) = i :: st_s K i := by
  show (if K i = 1 then _ else _) = _
  rw [if_neg (st_op1 h), if_pos h]
theorem st_oth {K : Nat → Int32} {i : Nat} (h1 : ¬ K i = 1) (h : ¬ st_op (K i)) : st_s K (i + 1) = st_s K i := by
  show (if K i = 1 then _ else _) = _
  rw [if_neg h1, if_neg h]
theorem st_lt {K : Nat → Int32} : ∀ {i b : Nat}, b ∈ st_s K i → b < i ∧ st_op (K b) := by
  intro i
  induction i with
  | zero => intro b h; cases h
  | succ i ih =>
    intro b h
    by_cases h1 : K i = 1
    · rw [st_end h1] at h
      have := ih (List.mem_of_mem_tail h)
      exact ⟨by omega, this.2⟩
    · by_cases h2 : st_op (K i)
      · rw [st_opn h2] at h
        rcases List.mem_cons.mp h with e | h
        · subst e; exact ⟨by omega, h2⟩
        · have := ih h
          exact ⟨by omega, this.2⟩
      · rw [st_oth h1 h2] at h
        have := ih h
        exact ⟨by omega, this.2⟩
/-- below a block on the stack lie the blocks that were open before it -/
theorem st_sfx {K : Nat → Int32} : ∀ {i b : Nat} {l r : List Nat}, st_s K i = l ++ b :: r → st_s K b = r := by
  intro i
  induction i with
  | zero => intro b l r h; cases l <;> cases h
  | succ i ih =>
    intro b l r h
    by_cases h1 : K i = 1
    · rw [st_end h1] at h
      cases e : st_s K i with
      | nil => rw [e] at h; cases l <;> cases h
      | cons x t =>
        rw [e] at h
        have h' : t = l ++ b :: r := h
        exact ih (l := x :: l) (by rw [e, h']; rfl)
    · by_cases h2 : st_op (K i)
      · rw [st_opn h2] at h
        cases l with
        | nil => injection h with a c; subst a; exact c
        | cons x t => injection h with a c; exact ih c
      · rw [st_oth h1 h2] at h
        exact ih h
theorem st_hd {K : Nat → Int32} {i b : Nat} {r : List Nat} (h : st_s K i = b :: r) : st_s K b = r := st_sfx (l := []) h
/-- what was true of the stack at j, was so at every line behind the block's first -/
theorem st_back {K : Nat → Int32} {n : Nat} (F : ∀ i, i < n → K i = 1 → st_s K i ≠ []) : ∀ {j : Nat} {o : Nat} {l r : List Nat}, j ≤ n → st_s K j = l ++ o :: r → ∀ i, o < i → i ≤ j → ∃ l', st_s K i = l' ++ o :: r := by
  intro j
  induction j with
  | zero => intro o l r _ h; cases l <;> cases h
  | succ j ih =>
    intro o l r hj h i hi hij
    by_cases e : i = j + 1
    · subst e; exact ⟨l, h⟩
    · by_cases h1 : K j = 1
      · rw [st_end h1] at h
        cases e2 : st_s K j with
        | nil => exact absurd e2 (F j (by omega) h1)
        | cons x t =>
          rw [e2] at h
          have h' : t = l ++ o :: r := h
          exact ih (l := x :: l) (by omega) (by rw [e2, h']; rfl) i hi (by omega)
      · by_cases h2 : st_op (K j)
        · rw [st_opn h2] at h
          cases l with
          | nil => injection h with a c; omega
          | cons x t => injection h with a c; exact ih (by omega) c i hi (by omega)
        · rw [st_oth h1 h2] at h
          exact ih (by omega) h i hi (by omega)
theorem st_len {o : Nat} {l r : List Nat} (h : l ++ o :: r = o :: r) : l = [] := by
  have := congrArg List.length h
  rw [List.length_append] at this
  exact List.length_eq_zero_iff.mp (by omega)
theorem st_nlen {o : Nat} {l r : List Nat} (h : r = l ++ o :: r) : False := by
  have := congrArg List.length h
  rw [List.length_append, List.length_cons] at this
  omega
/-- a block that is open when the lines end not, has its END -/
theorem st_hasEnd {K : Nat → Int32} {n : Nat} (Z : st_s K n = []) : ∀ (d i o : Nat) (l r : List Nat), i + d = n → st_s K i = l ++ o :: r → ∃ e, i ≤ e ∧ e < n ∧ K e = 1 ∧ st_s K e = o :: r := by
  intro d
  induction d with
  | zero => intro i o l r hi h; rw [show i = n by omega, Z] at h; cases l <;> cases h
  | succ d ih =>
    intro i o l r hi h
    by_cases h1 : K i = 1
    · cases l with
      | nil => exact ⟨i, by omega, by omega, h1, h⟩
      | cons x t =>
        obtain ⟨e, a, b⟩ := ih (i + 1) o t r (by omega) (by rw [st_end h1, h]; rfl)
        exact ⟨e, by omega, b⟩
    · by_cases h2 : st_op (K i)
      · obtain ⟨e, a, b⟩ := ih (i + 1) o (i :: l) r (by omega) (by rw [st_opn h2, h]; rfl)
        exact ⟨e, by omega, b⟩
      · obtain ⟨e, a, b⟩ := ih (i + 1) o l r (by omega) (by rw [st_oth h1 h2, h])
        exact ⟨e, by omega, b⟩
theorem st_bnd (K : Nat → Int32) : ∀ i, (st_s K i).length ≤ i := by
  intro i
  induction i with
  | zero => exact Nat.le_refl 0
  | succ i ih =>
    by_cases h1 : K i = 1
    · rw [st_end h1, List.length_tail]; omega
    · by_cases h2 : st_op (K i)
      · rw [st_opn h2, List.length_cons]; omega
      · rw [st_oth h1 h2]; omega
/-- what the form of the lines gives: of each line up to n -/
def st_F (K : Nat → Int32) (n : Nat) : Prop := ∀ i, i < n → (K i = 0 ↔ st_s K i = [])
theorem st_F1 {K : Nat → Int32} {n : Nat} (F : st_F K n) : ∀ i, i < n → K i = 1 → st_s K i ≠ [] := by
  intro i hi h1 h
  rw [(F i hi).mpr h] at h1
  exact absurd h1 (by decide)
theorem st_uniq {K : Nat → Int32} {n : Nat} (F : st_F K n) {e e' o : Nat} {r r' : List Nat} (he : e < n) (h1 : K e = 1) (hs : st_s K e = o :: r) (he' : e' < n) (h1' : K e' = 1) (hs' : st_s K e' = o :: r') : e = e' := by
  have a := st_hd hs
  have a' := st_hd hs'
  have rr : r' = r := a'.symm.trans a
  subst rr
  have key : ∀ {x y : Nat}, x < n → y < n → K x = 1 → st_s K x = o :: r' → st_s K y = o :: r' → x < y → False := by
    intro x y hx hy k1 s1 s2 hxy
    obtain ⟨l, hl⟩ := st_back (st_F1 F) (j := y) (l := []) (by omega) s2 (x + 1) (by have := (st_lt (K := K) (i := x) (b := o) (by rw [s1]; exact List.mem_cons_self)).1; omega) (by omega)
    rw [st_end k1, s1] at hl
    exact st_nlen hl
  rcases Nat.lt_trichotomy e e' with h | h | h
  · exact (key he he' h1 hs hs' h).elim
  · exact h
  · exact (key he' he h1' hs' hs h).elim
/-- the END of a block -/
def st_e (K : Nat → Int32) (o : Nat) : Nat → Nat
  | 0 => 0
  | e + 1 => if K e = 1 ∧ (st_s K e).head? = some o then e else st_e K o e
theorem st_e_eq {K : Nat → Int32} {n : Nat} (F : st_F K n) {e o : Nat} {r : List Nat} (he : e < n) (h1 : K e = 1) (hs : st_s K e = o :: r) : st_e K o n = e := by
  have key : ∀ m, e < m → m ≤ n → st_e K o m = e := by
    intro m
    induction m with
    | zero => intro h; omega
    | succ m ih =>
      intro hm hn
      show (if _ then _ else _) = _
      by_cases c : K m = 1 ∧ (st_s K m).head? = some o
      · rw [if_pos c]
        cases hc : st_s K m with
        | nil => rw [hc] at c; exact absurd c.2 (by simp)
        | cons x t =>
          rw [hc] at c
          have : x = o := by have := c.2; simpa using this
          subst this
          exact (st_uniq F he h1 hs (by omega) c.1 hc).symm
      · rw [if_neg c]
        by_cases e2 : e = m
        · subst e2
          exact absurd ⟨h1, by rw [hs]; rfl⟩ c
        · exact ih (by omega) (by omega)
  exact key n he (Nat.le_refl n)
/-- what is known of the END of a block that line i lies in -/
theorem st_e_of {K : Nat → Int32} {n : Nat} (F : st_F K n) (Z : st_s K n = []) {i o : Nat} {l r : List Nat} (hi : i ≤ n) (hs : st_s K i = l ++ o :: r) : i ≤ st_e K o n ∧ st_e K o n < n ∧ K (st_e K o n) = 1 ∧ st_s K (st_e K o n) = o :: r := by
  obtain ⟨e, a, b, c, d⟩ := st_hasEnd Z (n - i) i o l r (by omega) hs
  rw [st_e_eq F b c d]
  exact ⟨a, b, c, d⟩
abbrev st_mk (k : Int32) : Prop := k = 1 ∨ k = 3 ∨ st_sec k
/-- where a goroutine that comes to line j goes on -/
def st_c (K : Nat → Int32) (n : Nat) : Nat → Nat → Nat
  | 0, j => j
  | f + 1, j => if st_mk (K j) then (match st_s K j with
    | [] => j
    | o :: _ => if K o = 0 then j else if K o = 4 then o else st_c K n f (st_e K o n + 1)) else j
def st_ch (K : Nat → Int32) (n j : Nat) : Nat := st_c K n n j
def st_wf (K : Nat → Int32) (n : Nat) : Prop :=
  n ≤ 60 ∧ st_s K n = [] ∧ st_F K n ∧ (∀ i, i < n → K i = 3 → ∃ o r, st_s K i = o :: r ∧ K o = 2) ∧
  (∀ i, i < n → st_sec (K i) → ∃ o r, st_s K i = o :: r ∧ K o = 6) ∧ (∀ i, i < n → K i = 5 → ∃ b, b ∈ st_s K i ∧ K b = 4)
theorem st_mkhd {K : Nat → Int32} {n j : Nat} (F : st_F K n) (hj : j < n) (h : st_mk (K j)) : ∃ o r, st_s K j = o :: r ∧ o < j ∧ st_op (K o) ∧ r = st_s K o := by
  cases e : st_s K j with
  | nil =>
    have := (F j hj).mpr e
    rw [this] at h
    exact absurd h (by decide)
  | cons o r =>
    have := st_lt (K := K) (i := j) (b := o) (by rw [e]; exact List.mem_cons_self)
    exact ⟨o, r, rfl, this.1, this.2, (st_hd e).symm⟩
/-- behind the END of an IF or a SELECT stands a line -/
theorem st_next {K : Nat → Int32} {n i o : Nat} {l r : List Nat} (F : st_F K n) (Z : st_s K n = []) (hi : i < n) (hs : st_s K i = l ++ o :: r) (h0 : ¬ K o = 0) : i < st_e K o n + 1 ∧ st_e K o n + 1 < n ∧ st_s K (st_e K o n + 1) = r := by
  obtain ⟨a, b, c, d⟩ := st_e_of F Z (Nat.le_of_lt hi) hs
  have e1 : st_s K (st_e K o n + 1) = r := by rw [st_end c, d]; rfl
  have ho : o < n := by
    have := (st_lt (K := K) (i := i) (b := o) (by rw [hs]; simp)).1
    omega
  refine ⟨by omega, ?_, e1⟩
  have hr : r = st_s K o := (st_sfx hs).symm
  by_cases z : st_e K o n + 1 = n
  · rw [z, Z] at e1
    exact absurd ((F o ho).mpr (hr.symm.trans e1.symm)) h0
  · omega
theorem st_c_fuel {K : Nat → Int32} {n : Nat} (F : st_F K n) (Z : st_s K n = []) : ∀ f f' j, j < n → n - j ≤ f → n - j ≤ f' → st_c K n f j = st_c K n f' j := by
  intro f
  induction f with
  | zero => intro f' j hj h; omega
  | succ f ih =>
    intro f' j hj h h'
    obtain ⟨f', rfl⟩ : ∃ q, f' = q + 1 := ⟨f' - 1, by omega⟩
    show (if _ then _ else _) = (if _ then _ else _)
    by_cases hm : st_mk (K j)
    · rw [if_pos hm, if_pos hm]
      obtain ⟨o, r, e, ho, hk, hr⟩ := st_mkhd F hj hm
      rw [e]
      show (if _ then _ else _) = (if _ then _ else _)
      by_cases h0 : K o = 0
      · rw [if_pos h0, if_pos h0]
      · rw [if_neg h0, if_neg h0]
        by_cases h4 : K o = 4
        · rw [if_pos h4, if_pos h4]
        · rw [if_neg h4, if_neg h4]
          obtain ⟨a, b, _⟩ := st_next F Z hj (l := []) e h0
          exact ih f' _ b (by omega) (by omega)
    · rw [if_neg hm, if_neg hm]
theorem st_ch_n {K : Nat → Int32} {n j : Nat} (hj : j < n) (h : ¬ st_mk (K j)) : st_ch K n j = j := by
  obtain ⟨m, rfl⟩ : ∃ q, n = q + 1 := ⟨n - 1, by omega⟩
  show (if _ then _ else _) = _
  rw [if_neg h]
theorem st_ch_0 {K : Nat → Int32} {n j o : Nat} {r : List Nat} (hj : j < n) (h : st_mk (K j)) (e : st_s K j = o :: r) (h0 : K o = 0) : st_ch K n j = j := by
  obtain ⟨m, rfl⟩ : ∃ q, n = q + 1 := ⟨n - 1, by omega⟩
  show (if _ then _ else _) = _
  rw [if_pos h, e]
  show (if _ then _ else _) = _
  rw [if_pos h0]
theorem st_ch_4 {K : Nat → Int32} {n j o : Nat} {r : List Nat} (hj : j < n) (h : st_mk (K j)) (e : st_s K j = o :: r) (h4 : K o = 4) : st_ch K n j = o := by
  obtain ⟨m, rfl⟩ : ∃ q, n = q + 1 := ⟨n - 1, by omega⟩
  show (if _ then _ else _) = _
  rw [if_pos h, e]
  show (if _ then _ else _) = _
  rw [if_neg (by rw [h4]; decide), if_pos h4]
theorem st_ch_s {K : Nat → Int32} {n j o : Nat} {r : List Nat} (F : st_F K n) (Z : st_s K n = []) (hj : j < n) (h : st_mk (K j)) (e : st_s K j = o :: r) (h0 : ¬ K o = 0) (h4 : ¬ K o = 4) : st_ch K n j = st_ch K n (st_e K o n + 1) := by
  obtain ⟨a, b, _⟩ := st_next F Z hj (l := []) e h0
  rw [show st_ch K n (st_e K o n + 1) = st_c K n (n - 1) (st_e K o n + 1) from st_c_fuel F Z n (n - 1) _ b (by omega) (by omega)]
  obtain ⟨m, rfl⟩ : ∃ q, n = q + 1 := ⟨n - 1, by omega⟩
  show (if _ then _ else _) = _
  rw [if_pos h, e]
  show (if _ then _ else _) = _
  rw [if_neg h0, if_neg h4]
  rfl
/-- a line at which a goroutine may stand -/
def st_rest (K : Nat → Int32) (i : Nat) : Prop := ¬ st_mk (K i) ∨ (K i = 1 ∧ ∃ o r, st_s K i = o :: r ∧ K o = 0)
theorem st_ch_ok {K : Nat → Int32} {n : Nat} (W : st_wf K n) : ∀ d j, j < n → n - j ≤ d → st_ch K n j < n ∧ st_rest K (st_ch K n j) := by
  obtain ⟨n60, Z, F, W3, W4, W5⟩ := W
  intro d
  induction d with
  | zero => intro j hj h; omega
  | succ d ih =>
    intro j hj h
    by_cases hm : st_mk (K j)
    · obtain ⟨o, r, e, ho, hk, hr⟩ := st_mkhd F hj hm
      by_cases h0 : K o = 0
      · rw [st_ch_0 hj hm e h0]
        refine ⟨hj, Or.inr ⟨?_, o, r, e, h0⟩⟩
        rcases hm with h1 | h3 | hs
        · exact h1
        · obtain ⟨o', r', e', k'⟩ := W3 j hj h3
          rw [e] at e'
          injection e' with a b
          rw [← a, h0] at k'
          exact absurd k' (by decide)
        · obtain ⟨o', r', e', k'⟩ := W4 j hj hs
          rw [e] at e'
          injection e' with a b
          rw [← a, h0] at k'
          exact absurd k' (by decide)
      · by_cases h4 : K o = 4
        · rw [st_ch_4 hj hm e h4]
          exact ⟨by omega, Or.inl (by rw [h4]; decide)⟩
        · rw [st_ch_s F Z hj hm e h0 h4]
          obtain ⟨a, b, _⟩ := st_next F Z hj (l := []) e h0
          exact ih _ b (by omega)
    · rw [st_ch_n hj hm]
      exact ⟨hj, Or.inl hm⟩
end
section
/-! Y: the scans over the lines -/
theorem yo_t {post : Int32 → Prop} {k : Int32} (h : st_op k) (p : post 1) : wpY_opens post k := by
  unfold wpY_opens
  rcases h with h | h | h | h <;> (subst h; simp [p])
theorem yo_f {post : Int32 → Prop} {k : Int32} (h : ¬ st_op k) (p : post 0) : wpY_opens post k := by
  unfold wpY_opens
  simp only [st_op, not_or] at h
  exact br_f h.1 (br_f h.2.1 (br_f h.2.2.1 (br_f h.2.2.2 p)))
theorem ysec_t {post : Int32 → Prop} {k : Int32} (h : st_sec k) (p : post 1) : wpY_section post k := by
  unfold wpY_section wY_section_12
  rcases h with h | h | h | h <;> (subst h; simp [p])
theorem sec_iff (k : Int32) : st_sec k ↔ (7 ≤ k.toInt ∧ k.toInt ≤ 9) ∨ k.toInt = 29 := by
  have e : ∀ m : Int32, k = m ↔ k.toInt = m.toInt := fun m => Int32.toInt_inj.symm
  simp only [st_sec, e, show (7 : Int32).toInt = 7 from rfl, show (8 : Int32).toInt = 8 from rfl, show (9 : Int32).toInt = 9 from rfl, show (29 : Int32).toInt = 29 from rfl]
  omega
theorem ysec_f {post : Int32 → Prop} {k : Int32} (h : ¬ st_sec k) (p : post 0) : wpY_section post k := by
  rw [sec_iff] at h
  have h29 : ¬ k = 29 := fun z => h (Or.inr (by rw [z]; rfl))
  refine br_c (fun _ => br_f h29 p) (fun a => br_f (fun b => h (Or.inl ?_)) (br_f h29 p))
  rw [Int32.lt_iff_toInt_lt, show (7 : Int32).toInt = 7 from rfl] at a
  rw [Int32.le_iff_toInt_le, show (9 : Int32).toInt = 9 from rfl] at b
  omega
theorem ye_loop {post : Int32 → Prop} {v : SY} {n e o : Nat} (hn : ya_lines v = nI n) (n60 : n ≤ 60) (he : e < n) (h1 : ya_kind v e = 1)
    (W : ∀ i, o < i → i ≤ e → ∃ l, st_s (ya_kind v) i = l ++ o :: st_s (ya_kind v) o) (hs : st_s (ya_kind v) e = o :: st_s (ya_kind v) o) (hp : post (nI e)) :
    ∀ (d i : Nat) (l : List Nat), i + d = e → o < i → st_s (ya_kind v) i = l ++ o :: st_s (ya_kind v) o → ∀ m, d < m → wY_endOf_6 post (ya_lines v) (ya_bad v) (ya_state v) (ya_queued v) (ya_started v) (ya_now v) (ya_clock v) (ya_turn v) (ya_off v) (ya_made v) (ya_printed v) (ya_panicValue v) (ya_kind v) (ya_opA v) (ya_opB v) (ya_opC v) (ya_open v) (ya_seen v) (ya_unset v) (ya_status v) (ya_depth v) (ya_since v) (ya_resume v) (ya_shocked v) (ya_queue v) (ya_until v) (ya_channels v) (ya_pc v) (ya_vars v) (ya_noted v) (ya_noteOf v) (ya_noteB v) (ya_noteC v) (ya_asNote v) (ya_panics v) (ya_panicWith v) (ya_capacity v) (ya_held v) (ya_closed v) (ya_values v) (ya_out v) m (nI l.length) (nI i) := by
  intro d
  induction d with
  | zero =>
    intro i l hi ho hl m hm
    obtain ⟨m, rfl⟩ : ∃ q, m = q + 1 := ⟨m - 1, by omega⟩
    have e1 : i = e := by omega
    subst e1
    have hl0 : l = [] := st_len (hl.symm.trans hs)
    subst hl0
    refine br_f (by rw [hn]; exact nI_ge he (by omega)) ⟨vp_in_nI (by omega) (by decide), ?_⟩
    rw [nI_clamp (by omega), h1]
    refine yo_f (by decide) (br_t rfl ⟨vp_in_nI (by omega) (by decide), br_t rfl (nm_e (br_t rfl hp))⟩)
  | succ d ih =>
    intro i l hi ho hl m hm
    obtain ⟨m, rfl⟩ : ∃ q, m = q + 1 := ⟨m - 1, by omega⟩
    refine br_f (by rw [hn]; exact nI_ge (by omega) (by omega)) ⟨vp_in_nI (by omega) (by decide), ?_⟩
    rw [nI_clamp (by omega)]
    by_cases h2 : st_op (ya_kind v i)
    · refine yo_t h2 (br_f (by decide) (nm_r (nI_1 _) (nm_r (nI_1 _) ?_)))
      exact ih (i + 1) (i :: l) (by omega) (by omega) (by rw [st_opn h2, hl]; rfl) m (by omega)
    · refine yo_f h2 (br_t rfl ⟨vp_in_nI (by omega) (by decide), ?_⟩)
      by_cases h3 : ya_kind v i = 1
      · cases l with
        | nil =>
          obtain ⟨l', hl'⟩ := W (i + 1) (by omega) (by omega)
          rw [st_end h3, hl] at hl'
          exact absurd hl' (fun z => st_nlen z)
        | cons x t =>
          refine br_t h3 (nm_r (pk_m1 _) (br_f (nI_ne0 (Nat.succ_pos _) ?_) (nm_r (nI_1 _) ?_)))
          · have := st_bnd (ya_kind v) i
            rw [hl, List.length_append, List.length_cons] at this
            rw [List.length_cons]
            omega
          · exact ih (i + 1) t (by omega) (by omega) (by rw [st_end h3, hl]; rfl) m (by omega)
      · refine br_f h3 (nm_r (nI_1 _) ?_)
        exact ih (i + 1) l (by omega) (by omega) (by rw [st_oth h3 h2, hl]) m (by omega)
theorem ye_endOf {post : Int32 → Prop} {v : SY} {n e o : Nat} {r : List Nat} (hn : ya_lines v = nI n) (n60 : n ≤ 60) (F : st_F (ya_kind v) n) (he : e < n) (h1 : ya_kind v e = 1)
    (hs : st_s (ya_kind v) e = o :: r) (hp : post (nI e)) : wpY_endOf post v (nI o) := by
  have hr := st_hd hs
  subst hr
  have ho : o < e := (st_lt (K := ya_kind v) (i := e) (b := o) (by rw [hs]; exact List.mem_cons_self)).1
  have W := st_back (st_F1 F) (j := e) (l := []) (by omega) hs
  obtain ⟨l, hl⟩ := W (o + 1) (by omega) (by omega)
  have hk : st_op (ya_kind v o) := (st_lt (K := ya_kind v) (i := e) (b := o) (by rw [hs]; exact List.mem_cons_self)).2
  have key := ye_loop (v := v) hn n60 he h1 W hs hp (e - (o + 1)) (o + 1) [] (by omega) (by omega) (st_opn hk) (e + 1) (by omega)
  obtain ⟨f_lines, f_bad, f_state, f_queued, f_started, f_now, f_clock, f_turn, f_off, f_made, f_printed, f_panicValue, a_kind, a_opA, a_opB, a_opC, a_open, a_seen, a_unset, a_status, a_depth, a_since, a_resume, a_shocked, a_queue, a_until, a_channels, a_pc, a_vars, a_noted, a_noteOf, a_noteB, a_noteC, a_asNote, a_panics, a_panicWith, a_capacity, a_held, a_closed, a_values, a_out⟩ := v
  exact nm_r (nI_1 _) ⟨_, key⟩
theorem yop_l2 {post : Int32 → Prop} {v : SY} (hp : post (nI 0)) : ∀ i, (∀ i', 0 < i' → i' ≤ i → ¬ ya_kind v i' = 0) → i < 60 → ∀ m, i < m → wY_opener_57 post (ya_lines v) (ya_bad v) (ya_state v) (ya_queued v) (ya_started v) (ya_now v) (ya_clock v) (ya_turn v) (ya_off v) (ya_made v) (ya_printed v) (ya_panicValue v) (ya_kind v) (ya_opA v) (ya_opB v) (ya_opC v) (ya_open v) (ya_seen v) (ya_unset v) (ya_status v) (ya_depth v) (ya_since v) (ya_resume v) (ya_shocked v) (ya_queue v) (ya_until v) (ya_channels v) (ya_pc v) (ya_vars v) (ya_noted v) (ya_noteOf v) (ya_noteB v) (ya_noteC v) (ya_asNote v) (ya_panics v) (ya_panicWith v) (ya_capacity v) (ya_held v) (ya_closed v) (ya_values v) (ya_out v) m (nI i) := by
  intro i
  induction i with
  | zero =>
    intro _ _ m hm
    obtain ⟨m, rfl⟩ : ∃ q, m = q + 1 := ⟨m - 1, by omega⟩
    exact br_t (by decide) hp
  | succ i ih =>
    intro hk hi m hm
    obtain ⟨m, rfl⟩ : ∃ q, m = q + 1 := ⟨m - 1, by omega⟩
    refine br_f (nI_nle (by omega) (by omega)) ⟨vp_in_nI hi (by decide), ?_⟩
    rw [nI_clamp (by omega)]
    exact br_f (hk (i + 1) (by omega) (by omega)) (nm_r (pk_m1 _) (ih (fun i' a b => hk i' a (by omega)) (by omega) m (by omega)))
theorem yop_l1 {post : Int32 → Prop} {v : SY} {n j o : Nat} {r : List Nat} (n60 : n ≤ 60) (F : st_F (ya_kind v) n) (hj : j < n) (hs : st_s (ya_kind v) j = o :: r) (hp : post (nI o)) :
    ∀ (i : Nat) (l : List Nat), i < j → st_s (ya_kind v) (i + 1) = l ++ o :: r → ∀ m, i < m → wY_opener_6 post (nI j) (ya_lines v) (ya_bad v) (ya_state v) (ya_queued v) (ya_started v) (ya_now v) (ya_clock v) (ya_turn v) (ya_off v) (ya_made v) (ya_printed v) (ya_panicValue v) (ya_kind v) (ya_opA v) (ya_opB v) (ya_opC v) (ya_open v) (ya_seen v) (ya_unset v) (ya_status v) (ya_depth v) (ya_since v) (ya_resume v) (ya_shocked v) (ya_queue v) (ya_until v) (ya_channels v) (ya_pc v) (ya_vars v) (ya_noted v) (ya_noteOf v) (ya_noteB v) (ya_noteC v) (ya_asNote v) (ya_panics v) (ya_panicWith v) (ya_capacity v) (ya_held v) (ya_closed v) (ya_values v) (ya_out v) m (nI l.length) (nI i) := by
  intro i
  induction i with
  | zero =>
    intro l hi hl m hm
    obtain ⟨m, rfl⟩ : ∃ q, m = q + 1 := ⟨m - 1, by omega⟩
    have k0 : ya_kind v 0 = 0 := (F 0 (by omega)).mpr rfl
    rw [st_opn (Or.inl k0)] at hl
    have ho : o = 0 := by
      cases l with
      | nil => injection hl with a b; exact a.symm
      | cons x t => injection hl with a b; cases t <;> cases b
    subst ho
    refine br_t (by decide) (nm_r (pk_sub (b := 1) (by omega)) ⟨j, yop_l2 hp (j - 1) ?_ (by omega) j (by omega)⟩)
    intro i' a b z
    obtain ⟨l', hl'⟩ := st_back (st_F1 F) (j := j) (l := []) (by omega) hs (i' + 1) (by omega) (by omega)
    rw [st_opn (Or.inl z), (F i' (by omega)).mp z] at hl'
    cases l' with
    | nil => injection hl' with c d; omega
    | cons x t => injection hl' with c d; cases t <;> cases d
  | succ i ih =>
    intro l hi hl m hm
    obtain ⟨m, rfl⟩ : ∃ q, m = q + 1 := ⟨m - 1, by omega⟩
    refine br_f (nI_nle (by omega) (by omega)) ⟨vp_in_nI (by omega) (by decide), ?_⟩
    rw [nI_clamp (by omega)]
    by_cases h1 : ya_kind v (i + 1) = 1
    · refine br_t h1 (nm_r (nI_1 _) (nm_r (pk_m1 _) ?_))
      rw [st_end h1] at hl
      cases e2 : st_s (ya_kind v) (i + 1) with
      | nil => exact absurd e2 (st_F1 F (i + 1) (by omega) h1)
      | cons x t =>
        rw [e2] at hl
        exact ih (x :: l) (by omega) (by rw [e2, show t = l ++ o :: r from hl]; rfl) m (by omega)
    · refine br_f h1 ⟨vp_in_nI (by omega) (by decide), ?_⟩
      by_cases h2 : st_op (ya_kind v (i + 1))
      · refine yo_t h2 (br_f (by decide) ?_)
        rw [st_opn h2] at hl
        cases l with
        | nil =>
          injection hl with a b
          subst a
          exact nm_e (br_t rfl hp)
        | cons x t =>
          injection hl with a b
          have b : st_s (ya_kind v) (i + 1) = t ++ o :: r := b
          refine nm_r (pk_m1 _) (br_f (nI_ne0 (Nat.succ_pos _) ?_) (nm_r (pk_m1 _) (ih t (by omega) b m (by omega))))
          have := st_bnd (ya_kind v) (i + 1)
          rw [b, List.length_append] at this
          rw [List.length_cons]
          omega
      · rw [st_oth h1 h2] at hl
        exact yo_f h2 (br_t rfl (nm_r (pk_m1 _) (ih l (by omega) hl m (by omega))))
theorem ye_opener {post : Int32 → Prop} {v : SY} {n j o : Nat} {r : List Nat} (n60 : n ≤ 60) (F : st_F (ya_kind v) n) (hj : j < n) (hs : st_s (ya_kind v) j = o :: r) (hp : post (nI o)) : wpY_opener post v (nI j) := by
  have j0 : 0 < j := by
    cases j with
    | zero => cases hs
    | succ j => omega
  have key := yop_l1 (v := v) n60 F hj hs hp (j - 1) [] (by omega) (by rw [show j - 1 + 1 = j by omega]; exact hs) j (by omega)
  obtain ⟨f_lines, f_bad, f_state, f_queued, f_started, f_now, f_clock, f_turn, f_off, f_made, f_printed, f_panicValue, a_kind, a_opA, a_opB, a_opC, a_open, a_seen, a_unset, a_status, a_depth, a_since, a_resume, a_shocked, a_queue, a_until, a_channels, a_pc, a_vars, a_noted, a_noteOf, a_noteB, a_noteC, a_asNote, a_panics, a_panicWith, a_capacity, a_held, a_closed, a_values, a_out⟩ := v
  exact nm_r (pk_sub (b := 1) (by omega)) ⟨_, key⟩
/-- a line that begins a part of block o -/
def st_P (K : Nat → Int32) (o j : Nat) : Prop := (st_s K j).head? = some o ∧ (K j = 3 ∨ st_sec (K j))
theorem yp_loop {post : Int32 → Prop} {v : SY} {n e o : Nat} {r : List Nat} (n60 : n ≤ 60) (he : e < n) (W : ∀ i, o < i → i ≤ e → ∃ l, st_s (ya_kind v) i = l ++ o :: r) :
    ∀ (d j : Nat) (l : List Nat), j + d = e → o < j → st_s (ya_kind v) j = l ++ o :: r →
    (∀ j', j ≤ j' → j' < e → st_P (ya_kind v) o j' → (∀ i, j ≤ i → i < j' → ¬ st_P (ya_kind v) o i) → post (nI j')) →
    ((∀ i, j ≤ i → i < e → ¬ st_P (ya_kind v) o i) → post (-1)) → ∀ m, d < m → wY_part_14 post (nI e) (ya_lines v) (ya_bad v) (ya_state v) (ya_queued v) (ya_started v) (ya_now v) (ya_clock v) (ya_turn v) (ya_off v) (ya_made v) (ya_printed v) (ya_panicValue v) (ya_kind v) (ya_opA v) (ya_opB v) (ya_opC v) (ya_open v) (ya_seen v) (ya_unset v) (ya_status v) (ya_depth v) (ya_since v) (ya_resume v) (ya_shocked v) (ya_queue v) (ya_until v) (ya_channels v) (ya_pc v) (ya_vars v) (ya_noted v) (ya_noteOf v) (ya_noteB v) (ya_noteC v) (ya_asNote v) (ya_panics v) (ya_panicWith v) (ya_capacity v) (ya_held v) (ya_closed v) (ya_values v) (ya_out v) m (nI l.length) (nI j) := by
  intro d
  induction d with
  | zero =>
    intro j l hj ho hl hS hN m hm
    obtain ⟨m, rfl⟩ : ∃ q, m = q + 1 := ⟨m - 1, by omega⟩
    exact br_t (nI_le (by omega) (by omega)) (hN (fun i a b => by omega))
  | succ d ih =>
    intro j l hj ho hl hS hN m hm
    obtain ⟨m, rfl⟩ : ∃ q, m = q + 1 := ⟨m - 1, by omega⟩
    refine br_f (nI_ge (by omega) (by omega)) ⟨vp_in_nI (by omega) (by decide), ?_⟩
    rw [nI_clamp (by omega)]
    have next : ∀ (l' : List Nat), ¬ st_P (ya_kind v) o j → st_s (ya_kind v) (j + 1) = l' ++ o :: r → wY_part_14 post (nI e) (ya_lines v) (ya_bad v) (ya_state v) (ya_queued v) (ya_started v) (ya_now v) (ya_clock v) (ya_turn v) (ya_off v) (ya_made v) (ya_printed v) (ya_panicValue v) (ya_kind v) (ya_opA v) (ya_opB v) (ya_opC v) (ya_open v) (ya_seen v) (ya_unset v) (ya_status v) (ya_depth v) (ya_since v) (ya_resume v) (ya_shocked v) (ya_queue v) (ya_until v) (ya_channels v) (ya_pc v) (ya_vars v) (ya_noted v) (ya_noteOf v) (ya_noteB v) (ya_noteC v) (ya_asNote v) (ya_panics v) (ya_panicWith v) (ya_capacity v) (ya_held v) (ya_closed v) (ya_values v) (ya_out v) m (nI l'.length) (nI (j + 1)) := by
      intro l' hP hl'
      refine ih (j + 1) l' (by omega) (by omega) hl' (fun j' a b c g => hS j' (by omega) b c (fun i p q => ?_)) (fun g => hN (fun i p q => ?_)) m (by omega)
      · by_cases z : i = j
        · subst z; exact hP
        · exact g i (by omega) q
      · by_cases z : i = j
        · subst z; exact hP
        · exact g i (by omega) q
    have notP : ¬ (ya_kind v j = 3 ∨ st_sec (ya_kind v j)) → ¬ st_P (ya_kind v) o j := fun z y => z y.2
    by_cases h2 : st_op (ya_kind v j)
    · refine yo_t h2 (br_f (by decide) (nm_r (nI_1 _) (nm_r (nI_1 _) (next (j :: l) (notP ?_) (by rw [st_opn h2, hl]; rfl)))))
      rcases h2 with h | h | h | h <;> (rw [h]; decide)
    · refine yo_f h2 (br_t rfl ⟨vp_in_nI (by omega) (by decide), ?_⟩)
      by_cases h1 : ya_kind v j = 1
      · refine br_t h1 ?_
        cases l with
        | nil =>
          obtain ⟨l', hl'⟩ := W (j + 1) (by omega) (by omega)
          rw [st_end h1, hl] at hl'
          exact absurd hl' (fun z => st_nlen z)
        | cons x t => exact nm_r (pk_m1 _) (nm_r (nI_1 _) (next t (notP (by rw [h1]; decide)) (by rw [st_end h1, hl]; rfl)))
      · refine br_f h1 ?_
        cases l with
        | nil =>
          refine br_t rfl ⟨vp_in_nI (by omega) (by decide), ?_⟩
          have hh : (st_s (ya_kind v) j).head? = some o := by rw [hl]; rfl
          by_cases h3 : ya_kind v j = 3
          · exact br_t h3 (hS j (Nat.le_refl j) (by omega) ⟨hh, Or.inl h3⟩ (fun i a b => by omega))
          · refine br_f h3 ⟨vp_in_nI (by omega) (by decide), ?_⟩
            by_cases h4 : st_sec (ya_kind v j)
            · exact ysec_t h4 (br_f (by decide) (hS j (Nat.le_refl j) (by omega) ⟨hh, Or.inr h4⟩ (fun i a b => by omega)))
            · exact ysec_f h4 (br_t rfl (nm_r (nI_1 _) (next [] (notP (fun z => z.elim h3 h4)) (by rw [st_oth h1 h2, hl]))))
        | cons x t =>
          have lb := st_bnd (ya_kind v) j
          rw [hl, List.length_append] at lb
          refine br_f (nI_ne0 (by rw [List.length_cons]; omega) (by omega)) (nm_r (nI_1 _) (next (x :: t) ?_ (by rw [st_oth h1 h2, hl])))
          intro z
          have z1 := z.1
          rw [hl] at z1
          have z2 : x = o := by simpa using z1
          subst z2
          have z3 := st_sfx (K := ya_kind v) (i := j) (b := x) (l := []) hl
          have z4 := st_sfx (K := ya_kind v) (i := j) (b := x) (l := x :: t) hl
          rw [z4] at z3
          exact st_nlen z3
theorem ye_part {post : Int32 → Prop} {v : SY} {n e o i : Nat} {r : List Nat} (hn : ya_lines v = nI n) (n60 : n ≤ 60) (F : st_F (ya_kind v) n) (he : e < n) (h1 : ya_kind v e = 1)
    (hs : st_s (ya_kind v) e = o :: r) (hi : o ≤ i) (hie : i < e) (hsi : st_s (ya_kind v) (i + 1) = o :: r)
    (hS : ∀ j', i < j' → j' < e → st_P (ya_kind v) o j' → (∀ k, i < k → k < j' → ¬ st_P (ya_kind v) o k) → post (nI j'))
    (hN : (∀ k, i < k → k < e → ¬ st_P (ya_kind v) o k) → post (-1)) : wpY_part post v (nI o) (nI i) := by
  have W := st_back (st_F1 F) (j := e) (l := []) (by omega) hs
  have key := yp_loop (v := v) n60 he W (e - (i + 1)) (i + 1) [] (by omega) (by omega) hsi (fun j' a b c g => hS j' (by omega) b c (fun k p q => g k (by omega) q)) (fun g => hN (fun k p q => g k (by omega) q)) e (by omega)
  have key2 := ye_endOf (v := v) (post := fun r_1 => ∀ x, x = nI i + 1 → ∃ m, wY_part_14 post r_1 (ya_lines v) (ya_bad v) (ya_state v) (ya_queued v) (ya_started v) (ya_now v) (ya_clock v) (ya_turn v) (ya_off v) (ya_made v) (ya_printed v) (ya_panicValue v) (ya_kind v) (ya_opA v) (ya_opB v) (ya_opC v) (ya_open v) (ya_seen v) (ya_unset v) (ya_status v) (ya_depth v) (ya_since v) (ya_resume v) (ya_shocked v) (ya_queue v) (ya_until v) (ya_channels v) (ya_pc v) (ya_vars v) (ya_noted v) (ya_noteOf v) (ya_noteB v) (ya_noteC v) (ya_asNote v) (ya_panics v) (ya_panicWith v) (ya_capacity v) (ya_held v) (ya_closed v) (ya_values v) (ya_out v) m 0 x) hn n60 F he h1 hs (nm_r (nI_1 _) ⟨_, key⟩)
  obtain ⟨f_lines, f_bad, f_state, f_queued, f_started, f_now, f_clock, f_turn, f_off, f_made, f_printed, f_panicValue, a_kind, a_opA, a_opB, a_opC, a_open, a_seen, a_unset, a_status, a_depth, a_since, a_resume, a_shocked, a_queue, a_until, a_channels, a_pc, a_vars, a_noted, a_noteOf, a_noteB, a_noteC, a_asNote, a_panics, a_panicWith, a_capacity, a_held, a_closed, a_values, a_out⟩ := v
  exact key2
theorem ys_40 {post : Int32 → Prop} {J : Int32 → Int32 → Prop} {v : SY} {n j o c : Nat} {r : List Nat} (hn : ya_lines v = nI n) (n60 : n ≤ 60) (F : st_F (ya_kind v) n) (Z : st_s (ya_kind v) n = []) (hj : j < n) (e : st_s (ya_kind v) j = o :: r)
    (h0 : ya_kind v o = 0 → post (nI j)) (h4 : ya_kind v o = 4 → post (nI o)) (hs : ¬ ya_kind v o = 0 → ¬ ya_kind v o = 4 → J (nI (st_e (ya_kind v) o n + 1)) (nI (c + 1))) : wY_settle_40 post J (nI j) (nI c) (ya_lines v) (ya_bad v) (ya_state v) (ya_queued v) (ya_started v) (ya_now v) (ya_clock v) (ya_turn v) (ya_off v) (ya_made v) (ya_printed v) (ya_panicValue v) (ya_kind v) (ya_opA v) (ya_opB v) (ya_opC v) (ya_open v) (ya_seen v) (ya_unset v) (ya_status v) (ya_depth v) (ya_since v) (ya_resume v) (ya_shocked v) (ya_queue v) (ya_until v) (ya_channels v) (ya_pc v) (ya_vars v) (ya_noted v) (ya_noteOf v) (ya_noteB v) (ya_noteC v) (ya_asNote v) (ya_panics v) (ya_panicWith v) (ya_capacity v) (ya_held v) (ya_closed v) (ya_values v) (ya_out v) := by
  have ho : o < j := (st_lt (K := ya_kind v) (i := j) (b := o) (by rw [e]; exact List.mem_cons_self)).1
  obtain ⟨p1, p2, p3, p4⟩ := st_e_of F Z (l := []) (Nat.le_of_lt hj) e
  have key : wpY_opener (fun r_5 => (vp_in r_5 60 ∧ ((((ya_kind v r_5.toNatClampNeg) = 0 → (post (nI j))) ∧ (¬ (ya_kind v r_5.toNatClampNeg) = 0 → (vp_in r_5 60 ∧ ((((ya_kind v r_5.toNatClampNeg) = 4 → (post r_5)) ∧ (¬ (ya_kind v r_5.toNatClampNeg) = 4 → (wpY_endOf (fun r_51 => (∀ x, x = r_51 + 1 → ∀ y, y = nI c + 1 → (J x y))) v r_5)))))))))) v (nI j) := by
    refine ye_opener (v := v) n60 F hj e ⟨vp_in_nI (by omega) (by decide), ?_⟩
    rw [nI_clamp (by omega)]
    refine br_c h0 (fun n0 => ⟨vp_in_nI (by omega) (by decide), br_c h4 (fun n4 => ?_)⟩)
    exact ye_endOf (v := v) hn n60 F p2 p3 p4 (nm_r (nI_1 _) (nm_r (nI_1 _) (hs n0 n4)))
  obtain ⟨f_lines, f_bad, f_state, f_queued, f_started, f_now, f_clock, f_turn, f_off, f_made, f_printed, f_panicValue, a_kind, a_opA, a_opB, a_opC, a_open, a_seen, a_unset, a_status, a_depth, a_since, a_resume, a_shocked, a_queue, a_until, a_channels, a_pc, a_vars, a_noted, a_noteOf, a_noteB, a_noteC, a_asNote, a_panics, a_panicWith, a_capacity, a_held, a_closed, a_values, a_out⟩ := v
  exact key
theorem ys_loop {post : Int32 → Prop} {v : SY} {n : Nat} (hn : ya_lines v = nI n) (n60 : n ≤ 60) (F : st_F (ya_kind v) n) (Z : st_s (ya_kind v) n = []) : ∀ d j c, j < n → n - j ≤ d → c + d ≤ 120 → post (nI (st_ch (ya_kind v) n j)) → ∀ m, d < m → wY_settle_4 post (ya_lines v) (ya_bad v) (ya_state v) (ya_queued v) (ya_started v) (ya_now v) (ya_clock v) (ya_turn v) (ya_off v) (ya_made v) (ya_printed v) (ya_panicValue v) (ya_kind v) (ya_opA v) (ya_opB v) (ya_opC v) (ya_open v) (ya_seen v) (ya_unset v) (ya_status v) (ya_depth v) (ya_since v) (ya_resume v) (ya_shocked v) (ya_queue v) (ya_until v) (ya_channels v) (ya_pc v) (ya_vars v) (ya_noted v) (ya_noteOf v) (ya_noteB v) (ya_noteC v) (ya_asNote v) (ya_panics v) (ya_panicWith v) (ya_capacity v) (ya_held v) (ya_closed v) (ya_values v) (ya_out v) m (nI j) (nI c) := by
  intro d
  induction d with
  | zero => intro j c hj h; omega
  | succ d ih =>
    intro j c hj h hc hp m hm
    obtain ⟨m, rfl⟩ : ∃ q, m = q + 1 := ⟨m - 1, by omega⟩
    refine br_f (nI_ge (b := 120) (by omega) (by omega)) ⟨vp_in_nI (by omega) (by decide), ?_⟩
    rw [nI_clamp (by omega)]
    have s40 : st_mk (ya_kind v j) → wY_settle_40 post (wY_settle_4 post (ya_lines v) (ya_bad v) (ya_state v) (ya_queued v) (ya_started v) (ya_now v) (ya_clock v) (ya_turn v) (ya_off v) (ya_made v) (ya_printed v) (ya_panicValue v) (ya_kind v) (ya_opA v) (ya_opB v) (ya_opC v) (ya_open v) (ya_seen v) (ya_unset v) (ya_status v) (ya_depth v) (ya_since v) (ya_resume v) (ya_shocked v) (ya_queue v) (ya_until v) (ya_channels v) (ya_pc v) (ya_vars v) (ya_noted v) (ya_noteOf v) (ya_noteB v) (ya_noteC v) (ya_asNote v) (ya_panics v) (ya_panicWith v) (ya_capacity v) (ya_held v) (ya_closed v) (ya_values v) (ya_out v) m) (nI j) (nI c) (ya_lines v) (ya_bad v) (ya_state v) (ya_queued v) (ya_started v) (ya_now v) (ya_clock v) (ya_turn v) (ya_off v) (ya_made v) (ya_printed v) (ya_panicValue v) (ya_kind v) (ya_opA v) (ya_opB v) (ya_opC v) (ya_open v) (ya_seen v) (ya_unset v) (ya_status v) (ya_depth v) (ya_since v) (ya_resume v) (ya_shocked v) (ya_queue v) (ya_until v) (ya_channels v) (ya_pc v) (ya_vars v) (ya_noted v) (ya_noteOf v) (ya_noteB v) (ya_noteC v) (ya_asNote v) (ya_panics v) (ya_panicWith v) (ya_capacity v) (ya_held v) (ya_closed v) (ya_values v) (ya_out v) := by
      intro hk
      obtain ⟨o, r, e, ho, hop, hr⟩ := st_mkhd F hj hk
      refine ys_40 (v := v) hn n60 F Z hj e (fun h0 => ?_) (fun h4 => ?_) (fun h0 h4 => ?_)
      · rw [st_ch_0 hj hk e h0] at hp; exact hp
      · rw [st_ch_4 hj hk e h4] at hp; exact hp
      · rw [st_ch_s F Z hj hk e h0 h4] at hp
        obtain ⟨a, b, _⟩ := st_next F Z hj (l := []) e h0
        exact ih _ _ b (by omega) (by omega) hp m (by omega)
    refine nm_e ?_
    by_cases h1 : ya_kind v j = 1
    · exact br_t h1 (s40 (Or.inl h1))
    · refine br_f h1 ?_
      by_cases h3 : ya_kind v j = 3
      · exact br_t h3 (s40 (Or.inr (Or.inl h3)))
      · refine br_f h3 ?_
        by_cases h4 : st_sec (ya_kind v j)
        · exact ysec_t h4 (br_f (by decide) (s40 (Or.inr (Or.inr h4))))
        · rw [st_ch_n hj (fun z => z.elim h1 (fun z => z.elim h3 h4))] at hp
          exact ysec_f h4 (br_t rfl hp)
theorem ye_settle {post : Int32 → Prop} {v : SY} {n j : Nat} (hn : ya_lines v = nI n) (W : st_wf (ya_kind v) n) (hj : j < n) (hp : post (nI (st_ch (ya_kind v) n j))) : wpY_settle post v (nI j) := by
  obtain ⟨n60, Z, F, _⟩ := W
  have key := ys_loop (v := v) hn n60 F Z 60 j 0 hj (by omega) (by omega) hp 61 (by omega)
  obtain ⟨f_lines, f_bad, f_state, f_queued, f_started, f_now, f_clock, f_turn, f_off, f_made, f_printed, f_panicValue, a_kind, a_opA, a_opB, a_opC, a_open, a_seen, a_unset, a_status, a_depth, a_since, a_resume, a_shocked, a_queue, a_until, a_channels, a_pc, a_vars, a_noted, a_noteOf, a_noteB, a_noteC, a_asNote, a_panics, a_panicWith, a_capacity, a_held, a_closed, a_values, a_out⟩ := v
  exact ⟨_, key⟩
end
