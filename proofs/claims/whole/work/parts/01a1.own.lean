/-! the words of a throw by a constructor that hands its text to another place of its pool -/
def xx_chain (X : String) (ix : Nat) (rx : ByteArray) : List String → List Cond
  | [] => Bundle.passSAtoms X Bundle.tN ix rx
  | Y :: r => Bundle.passSAtoms X Y ix rx ++ Bundle.chainSAtoms Y r
def xx_more (own : String) (ic : Nat) (X : String) : List Cond := [.methodLink own ic (Bundle.initS X), .instantiable X 6, .castable X X, .selects X Bundle.tFill0 Bundle.tFill0, .selects X Bundle.tFill Bundle.tFill, .lays X Bundle.tN "cause" "Ljava/lang/Throwable;", .lays X Bundle.tN "stackTrace" Bundle.steD, .lays X Bundle.tN "suppressedExceptions" Bundle.listD, .lays X Bundle.tN "detailMessage" "Ljava/lang/String;", .isRef (.static Bundle.tN "UNASSIGNED_STACK" Bundle.steD), .isRef (.static Bundle.tN "SUPPRESSED_SENTINEL" Bundle.listD), .fieldLink Bundle.tN 198 Bundle.tN "backtrace" "Ljava/lang/Object;", .lays Bundle.tN Bundle.tN "backtrace" "Ljava/lang/Object;", .lays X Bundle.tN "backtrace" "Ljava/lang/Object;"]
def xx_own (own : String) (ic : Nat) (X : String) (ix : Nat) (rx : ByteArray) (names : List String) : List Cond := Bundle.throwableAtoms ++ Bundle.throwableSAtoms ++ xx_chain X ix rx names ++ xx_more own ic X
def xx_at (own : String) (ic : Nat) (X : String) (ix : Nat) (rx : ByteArray) (names : List String) : List Cond := (xx_own own ic X ix rx names).filter vx_no
theorem xx_at7 {own X Y : String} {ic : Nat} {r : List String} : xx_at own ic X 7 Bundle.six (Y :: r) = vx_atS own ic X (Y :: r) := rfl
def xx_rx : ByteArray := ⟨#[0x2a, 0x2b, 0xb7, 0x00, 0x0d, 0xb1]⟩
theorem xx_rx0 : decode xx_rx 0 = .ok (.aload_n 0, 1) := by decide +kernel
theorem xx_rx1 : decode xx_rx 1 = .ok (.aload_n 1, 1) := by decide +kernel
theorem xx_rx2 : decode xx_rx 2 = .ok (.invokespecial 13, 3) := by decide +kernel
theorem xx_rx5 : decode xx_rx 5 = .ok (.return_, 1) := by decide +kernel
