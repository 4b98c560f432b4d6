def RX0 : String := "RootedFerry$1"
def TX0 : u_T := fun k => match k with
  | _ => ("", "", "", false)
def tyX0 : Nat → FieldType := fun k => match k with
  | _ => .int
abbrev wsX00 : List Cond := u_ws RX0 TX0 0
theorem nmX0 : ∀ a, a < 0 → ∀ b, b < 0 → a ≠ b → (TX0 a).2.1 ≠ (TX0 b).2.1 := by decide +kernel
theorem tyX0_ok : ∀ k, k < 0 → parseFieldDescriptor (TX0 k).2.2.1 = some (tyX0 k) := by decide +kernel
def RX1 : String := "RootedFerry$Account"
def TX1 : u_T := fun k => match k with
  | 0 => ("RootedFerry$Account", "user", "J", true)
  | 1 => ("RootedFerry$Account", "password", "J", true)
  | _ => ("RootedFerry$Account", "root", "LRootedFerry$Node;", true)
def tyX1 : Nat → FieldType := fun k => match k with
  | 0 => .long
  | 1 => .long
  | _ => .object "RootedFerry$Node"
abbrev wsX10 : List Cond := u_ws RX1 TX1 3
theorem nmX1 : ∀ a, a < 3 → ∀ b, b < 3 → a ≠ b → (TX1 a).2.1 ≠ (TX1 b).2.1 := by decide +kernel
theorem tyX1_ok : ∀ k, k < 3 → parseFieldDescriptor (TX1 k).2.2.1 = some (tyX1 k) := by decide +kernel
abbrev cX1_init : ByteArray := prog_3_method_1_code
def yX1_init : MethodName := ⟨RX1, "<init>", "(JJLRootedFerry$Node;)V"⟩
def RX2 : String := "RootedFerry$Cargo"
def TX2 : u_T := fun k => match k with
  | 0 => ("RootedFerry$Cargo", "data", "[I", true)
  | 1 => ("RootedFerry$Cargo", "kind", "I", false)
  | 2 => ("RootedFerry$Cargo", "length", "I", false)
  | 3 => ("RootedFerry$Cargo", "position", "I", false)
  | 4 => ("RootedFerry$Cargo", "file", "LRootedFerry$Node;", false)
  | 5 => ("RootedFerry$Cargo", "directory", "LRootedFerry$Node;", false)
  | 6 => ("RootedFerry$Cargo", "name", "J", false)
  | _ => ("RootedFerry$Cargo", "append", "Z", false)
def tyX2 : Nat → FieldType := fun k => match k with
  | 0 => .array .int
  | 1 => .int
  | 2 => .int
  | 3 => .int
  | 4 => .object "RootedFerry$Node"
  | 5 => .object "RootedFerry$Node"
  | 6 => .long
  | _ => .boolean
abbrev wsX20 : List Cond := u_ws RX2 TX2 8
theorem nmX2 : ∀ a, a < 8 → ∀ b, b < 8 → a ≠ b → (TX2 a).2.1 ≠ (TX2 b).2.1 := by decide +kernel
theorem tyX2_ok : ∀ k, k < 8 → parseFieldDescriptor (TX2 k).2.2.1 = some (tyX2 k) := by decide +kernel
abbrev cX2_init : ByteArray := prog_4_method_1_code
def yX2_init : MethodName := ⟨RX2, "<init>", "()V"⟩
abbrev cX2_clear : ByteArray := prog_4_method_2_code
def yX2_clear : MethodName := ⟨RX2, "clear", "()V"⟩
abbrev cX2_giveFile : ByteArray := prog_4_method_3_code
def yX2_giveFile : MethodName := ⟨RX2, "giveFile", "(LRootedFerry$Node;IZ)V"⟩
abbrev cX2_giveNames : ByteArray := prog_4_method_4_code
def yX2_giveNames : MethodName := ⟨RX2, "giveNames", "(LRootedFerry$Tree;LRootedFerry$Node;)V"⟩
abbrev cX2_startTaking : ByteArray := prog_4_method_5_code
def yX2_startTaking : MethodName := ⟨RX2, "startTaking", "(LRootedFerry$Node;LRootedFerry$Node;JZ)V"⟩
abbrev cX2_next : ByteArray := prog_4_method_6_code
def yX2_next : MethodName := ⟨RX2, "next", "()I"⟩
abbrev cX2_receive : ByteArray := prog_4_method_7_code
def yX2_receive : MethodName := ⟨RX2, "receive", "(I)Z"⟩
abbrev cX2_leaveOutReturns : ByteArray := prog_4_method_8_code
def yX2_leaveOutReturns : MethodName := ⟨RX2, "leaveOutReturns", "()V"⟩
abbrev cX2_add : ByteArray := prog_4_method_9_code
def yX2_add : MethodName := ⟨RX2, "add", "(I)V"⟩
def RX3 : String := "RootedFerry$Command"
def TX3 : u_T := fun k => match k with
  | _ => ("", "", "", false)
def tyX3 : Nat → FieldType := fun k => match k with
  | _ => .int
abbrev wsX30 : List Cond := u_ws RX3 TX3 0
theorem nmX3 : ∀ a, a < 0 → ∀ b, b < 0 → a ≠ b → (TX3 a).2.1 ≠ (TX3 b).2.1 := by decide +kernel
theorem tyX3_ok : ∀ k, k < 0 → parseFieldDescriptor (TX3 k).2.2.1 = some (tyX3 k) := by decide +kernel
def RX4 : String := "RootedFerry$Line"
def TX4 : u_T := fun k => match k with
  | 0 => ("RootedFerry$Line", "signs", "[C", true)
  | _ => ("RootedFerry$Line", "length", "I", false)
def tyX4 : Nat → FieldType := fun k => match k with
  | 0 => .array .char
  | _ => .int
abbrev wsX40 : List Cond := u_ws RX4 TX4 2
theorem nmX4 : ∀ a, a < 2 → ∀ b, b < 2 → a ≠ b → (TX4 a).2.1 ≠ (TX4 b).2.1 := by decide +kernel
theorem tyX4_ok : ∀ k, k < 2 → parseFieldDescriptor (TX4 k).2.2.1 = some (tyX4 k) := by decide +kernel
abbrev cX4_init : ByteArray := prog_6_method_1_code
def yX4_init : MethodName := ⟨RX4, "<init>", "()V"⟩
abbrev cX4_add : ByteArray := prog_6_method_2_code
def yX4_add : MethodName := ⟨RX4, "add", "(C)Z"⟩
abbrev cX4_clear : ByteArray := prog_6_method_3_code
def yX4_clear : MethodName := ⟨RX4, "clear", "()V"⟩
abbrev cX4_at : ByteArray := prog_6_method_4_code
def yX4_at : MethodName := ⟨RX4, "at", "(I)C"⟩
abbrev cX4_length : ByteArray := prog_6_method_5_code
def yX4_length : MethodName := ⟨RX4, "length", "()I"⟩
abbrev cX4_startsWithCommand : ByteArray := prog_6_method_6_code
def yX4_startsWithCommand : MethodName := ⟨RX4, "startsWithCommand", "(Ljava/lang/String;)Z"⟩
abbrev cX4_endsWithItsSpace : ByteArray := prog_6_method_7_code
def yX4_endsWithItsSpace : MethodName := ⟨RX4, "endsWithItsSpace", "()Z"⟩
abbrev cX4_hasArgument : ByteArray := prog_6_method_8_code
def yX4_hasArgument : MethodName := ⟨RX4, "hasArgument", "()Z"⟩
abbrev cX4_argumentStart : ByteArray := prog_6_method_9_code
def yX4_argumentStart : MethodName := ⟨RX4, "argumentStart", "()I"⟩
abbrev cX4_argumentLength : ByteArray := prog_6_method_10_code
def yX4_argumentLength : MethodName := ⟨RX4, "argumentLength", "()I"⟩
abbrev cX4_argumentName : ByteArray := prog_6_method_11_code
def yX4_argumentName : MethodName := ⟨RX4, "argumentName", "()J"⟩
abbrev cX4_argumentNumber : ByteArray := prog_6_method_12_code
def yX4_argumentNumber : MethodName := ⟨RX4, "argumentNumber", "()I"⟩
abbrev cX4_argumentPort : ByteArray := prog_6_method_13_code
def yX4_argumentPort : MethodName := ⟨RX4, "argumentPort", "()I"⟩
abbrev cX4_capital : ByteArray := prog_6_method_14_code
def yX4_capital : MethodName := ⟨RX4, "capital", "(C)C"⟩
abbrev cX4_commandLength : ByteArray := prog_6_method_15_code
def yX4_commandLength : MethodName := ⟨RX4, "commandLength", "()I"⟩
abbrev cX4_number : ByteArray := prog_6_method_16_code
def yX4_number : MethodName := ⟨RX4, "number", "(II)I"⟩
def RX5 : String := "RootedFerry$Memory"
def TX5 : u_T := fun k => match k with
  | 0 => ("RootedFerry$Memory", "restart", "I", false)
  | 1 => ("RootedFerry$Memory", "user", "J", false)
  | _ => ("RootedFerry$Memory", "renamed", "LRootedFerry$Node;", false)
def tyX5 : Nat → FieldType := fun k => match k with
  | 0 => .int
  | 1 => .long
  | _ => .object "RootedFerry$Node"
abbrev wsX50 : List Cond := u_ws RX5 TX5 3
theorem nmX5 : ∀ a, a < 3 → ∀ b, b < 3 → a ≠ b → (TX5 a).2.1 ≠ (TX5 b).2.1 := by decide +kernel
theorem tyX5_ok : ∀ k, k < 3 → parseFieldDescriptor (TX5 k).2.2.1 = some (tyX5 k) := by decide +kernel
abbrev cX5_init : ByteArray := prog_7_method_1_code
def yX5_init : MethodName := ⟨RX5, "<init>", "()V"⟩
abbrev cX5_takeOver : ByteArray := prog_7_method_2_code
def yX5_takeOver : MethodName := ⟨RX5, "takeOver", "(LRootedFerry$Memory;)V"⟩
abbrev cX5_clear : ByteArray := prog_7_method_3_code
def yX5_clear : MethodName := ⟨RX5, "clear", "()V"⟩
def RX6 : String := "RootedFerry$Message"
def TX6 : u_T := fun k => match k with
  | 0 => ("RootedFerry$Message", "signs", "[C", true)
  | _ => ("RootedFerry$Message", "start", "I", false)
def tyX6 : Nat → FieldType := fun k => match k with
  | 0 => .array .char
  | _ => .int
abbrev wsX60 : List Cond := u_ws RX6 TX6 2
theorem nmX6 : ∀ a, a < 2 → ∀ b, b < 2 → a ≠ b → (TX6 a).2.1 ≠ (TX6 b).2.1 := by decide +kernel
theorem tyX6_ok : ∀ k, k < 2 → parseFieldDescriptor (TX6 k).2.2.1 = some (tyX6 k) := by decide +kernel
abbrev cX6_init : ByteArray := prog_8_method_1_code
def yX6_init : MethodName := ⟨RX6, "<init>", "()V"⟩
abbrev cX6_at : ByteArray := prog_8_method_2_code
def yX6_at : MethodName := ⟨RX6, "at", "(I)C"⟩
abbrev cX6_spellPath : ByteArray := prog_8_method_3_code
def yX6_spellPath : MethodName := ⟨RX6, "spellPath", "(LRootedFerry$Node;)V"⟩
abbrev cX6_spellNumber : ByteArray := prog_8_method_4_code
def yX6_spellNumber : MethodName := ⟨RX6, "spellNumber", "(I)V"⟩
abbrev cX6_putName : ByteArray := prog_8_method_5_code
def yX6_putName : MethodName := ⟨RX6, "putName", "(J)V"⟩
abbrev cX6_putBefore : ByteArray := prog_8_method_6_code
def yX6_putBefore : MethodName := ⟨RX6, "putBefore", "(C)V"⟩
def RX7 : String := "RootedFerry$Name"
def TX7 : u_T := fun k => match k with
  | _ => ("", "", "", false)
def tyX7 : Nat → FieldType := fun k => match k with
  | _ => .int
abbrev wsX70 : List Cond := u_ws RX7 TX7 0
theorem nmX7 : ∀ a, a < 0 → ∀ b, b < 0 → a ≠ b → (TX7 a).2.1 ≠ (TX7 b).2.1 := by decide +kernel
theorem tyX7_ok : ∀ k, k < 0 → parseFieldDescriptor (TX7 k).2.2.1 = some (tyX7 k) := by decide +kernel
abbrev cX7_partOfWord : ByteArray := prog_9_method_2_code
def yX7_partOfWord : MethodName := ⟨RX7, "partOfWord", "(J)J"⟩
abbrev cX7_partOfLine : ByteArray := prog_9_method_3_code
def yX7_partOfLine : MethodName := ⟨RX7, "partOfLine", "(LRootedFerry$Line;II)J"⟩
abbrev cX7_isDots : ByteArray := prog_9_method_4_code
def yX7_isDots : MethodName := ⟨RX7, "isDots", "(J)Z"⟩
abbrev cX7_withoutDots : ByteArray := prog_9_method_5_code
def yX7_withoutDots : MethodName := ⟨RX7, "withoutDots", "(J)J"⟩
abbrev cX7_signOf : ByteArray := prog_9_method_6_code
def yX7_signOf : MethodName := ⟨RX7, "signOf", "(JI)I"⟩
abbrev cX7_isSign : ByteArray := prog_9_method_7_code
def yX7_isSign : MethodName := ⟨RX7, "isSign", "(I)Z"⟩
def RX8 : String := "RootedFerry$Node"
def TX8 : u_T := fun k => match k with
  | 0 => ("RootedFerry$Node", "content", "[I", true)
  | 1 => ("RootedFerry$Node", "size", "I", false)
  | 2 => ("RootedFerry$Node", "used", "Z", false)
  | 3 => ("RootedFerry$Node", "directory", "Z", false)
  | 4 => ("RootedFerry$Node", "name", "J", false)
  | _ => ("RootedFerry$Node", "parent", "LRootedFerry$Node;", false)
def tyX8 : Nat → FieldType := fun k => match k with
  | 0 => .array .int
  | 1 => .int
  | 2 => .boolean
  | 3 => .boolean
  | 4 => .long
  | _ => .object "RootedFerry$Node"
abbrev wsX80 : List Cond := u_ws RX8 TX8 6
theorem nmX8 : ∀ a, a < 6 → ∀ b, b < 6 → a ≠ b → (TX8 a).2.1 ≠ (TX8 b).2.1 := by decide +kernel
theorem tyX8_ok : ∀ k, k < 6 → parseFieldDescriptor (TX8 k).2.2.1 = some (tyX8 k) := by decide +kernel
abbrev cX8_init : ByteArray := prog_10_method_1_code
def yX8_init : MethodName := ⟨RX8, "<init>", "()V"⟩
abbrev cX8_free : ByteArray := prog_10_method_2_code
def yX8_free : MethodName := ⟨RX8, "free", "()V"⟩
def RX9 : String := "RootedFerry$Path"
def TX9 : u_T := fun k => match k with
  | 0 => ("RootedFerry$Path", "parts", "[J", true)
  | 1 => ("RootedFerry$Path", "count", "I", false)
  | 2 => ("RootedFerry$Path", "fromRoot", "Z", false)
  | 3 => ("RootedFerry$Path", "slashBehind", "Z", false)
  | 4 => ("RootedFerry$Path", "end", "LRootedFerry$Node;", false)
  | 5 => ("RootedFerry$Path", "placeDirectory", "LRootedFerry$Node;", false)
  | _ => ("RootedFerry$Path", "placeName", "J", false)
def tyX9 : Nat → FieldType := fun k => match k with
  | 0 => .array .long
  | 1 => .int
  | 2 => .boolean
  | 3 => .boolean
  | 4 => .object "RootedFerry$Node"
  | 5 => .object "RootedFerry$Node"
  | _ => .long
abbrev wsX90 : List Cond := u_ws RX9 TX9 7
theorem nmX9 : ∀ a, a < 7 → ∀ b, b < 7 → a ≠ b → (TX9 a).2.1 ≠ (TX9 b).2.1 := by decide +kernel
theorem tyX9_ok : ∀ k, k < 7 → parseFieldDescriptor (TX9 k).2.2.1 = some (tyX9 k) := by decide +kernel
abbrev cX9_init : ByteArray := prog_11_method_1_code
def yX9_init : MethodName := ⟨RX9, "<init>", "()V"⟩
abbrev cX9_stay : ByteArray := prog_11_method_2_code
def yX9_stay : MethodName := ⟨RX9, "stay", "()V"⟩
abbrev cX9_read : ByteArray := prog_11_method_3_code
def yX9_read : MethodName := ⟨RX9, "read", "(LRootedFerry$Line;)Z"⟩
abbrev cX9_walk : ByteArray := prog_11_method_4_code
def yX9_walk : MethodName := ⟨RX9, "walk", "(LRootedFerry$Tree;LRootedFerry$Node;LRootedFerry$Node;)V"⟩
abbrev cX9_addPart : ByteArray := prog_11_method_5_code
def yX9_addPart : MethodName := ⟨RX9, "addPart", "(J)Z"⟩
abbrev cX9_findPlace : ByteArray := prog_11_method_6_code
def yX9_findPlace : MethodName := ⟨RX9, "findPlace", "(LRootedFerry$Node;)V"⟩
def RX10 : String := "RootedFerry$Tree"
def TX10 : u_T := fun k => match k with
  | _ => ("RootedFerry$Tree", "all", "[LRootedFerry$Node;", true)
def tyX10 : Nat → FieldType := fun k => match k with
  | _ => .array (.object "RootedFerry$Node")
abbrev wsX100 : List Cond := u_ws RX10 TX10 1
theorem nmX10 : ∀ a, a < 1 → ∀ b, b < 1 → a ≠ b → (TX10 a).2.1 ≠ (TX10 b).2.1 := by decide +kernel
theorem tyX10_ok : ∀ k, k < 1 → parseFieldDescriptor (TX10 k).2.2.1 = some (tyX10 k) := by decide +kernel
abbrev cX10_init : ByteArray := prog_12_method_1_code
def yX10_init : MethodName := ⟨RX10, "<init>", "()V"⟩
abbrev cX10_add : ByteArray := prog_12_method_2_code
def yX10_add : MethodName := ⟨RX10, "add", "(LRootedFerry$Node;JZ)LRootedFerry$Node;"⟩
abbrev cX10_isFull : ByteArray := prog_12_method_3_code
def yX10_isFull : MethodName := ⟨RX10, "isFull", "()Z"⟩
abbrev cX10_countNodes : ByteArray := prog_12_method_4_code
def yX10_countNodes : MethodName := ⟨RX10, "countNodes", "()I"⟩
abbrev cX10_countBytes : ByteArray := prog_12_method_5_code
def yX10_countBytes : MethodName := ⟨RX10, "countBytes", "()I"⟩
abbrev cX10_step : ByteArray := prog_12_method_6_code
def yX10_step : MethodName := ⟨RX10, "step", "(LRootedFerry$Node;J)LRootedFerry$Node;"⟩
abbrev cX10_isEmpty : ByteArray := prog_12_method_7_code
def yX10_isEmpty : MethodName := ⟨RX10, "isEmpty", "(LRootedFerry$Node;)Z"⟩
abbrev cX10_nextName : ByteArray := prog_12_method_8_code
def yX10_nextName : MethodName := ⟨RX10, "nextName", "(LRootedFerry$Node;J)J"⟩
abbrev cX10_liesIn : ByteArray := prog_12_method_9_code
def yX10_liesIn : MethodName := ⟨RX10, "liesIn", "(LRootedFerry$Node;LRootedFerry$Node;)Z"⟩
abbrev cX10_child : ByteArray := prog_12_method_10_code
def yX10_child : MethodName := ⟨RX10, "child", "(LRootedFerry$Node;J)LRootedFerry$Node;"⟩
def RX11 : String := "RootedFerry$Way"
def TX11 : u_T := fun k => match k with
  | _ => ("", "", "", false)
def tyX11 : Nat → FieldType := fun k => match k with
  | _ => .int
abbrev wsX110 : List Cond := u_ws RX11 TX11 0
theorem nmX11 : ∀ a, a < 0 → ∀ b, b < 0 → a ≠ b → (TX11 a).2.1 ≠ (TX11 b).2.1 := by decide +kernel
theorem tyX11_ok : ∀ k, k < 0 → parseFieldDescriptor (TX11 k).2.2.1 = some (tyX11 k) := by decide +kernel
def RX12 : String := "RootedFerry"
def TX12 : u_T := fun k => match k with
  | 0 => ("RootedFerry", "line", "LRootedFerry$Line;", true)
  | 1 => ("RootedFerry", "tree", "LRootedFerry$Tree;", true)
  | 2 => ("RootedFerry", "accounts", "Ljava/util/ArrayList;", true)
  | 3 => ("RootedFerry", "path", "LRootedFerry$Path;", true)
  | 4 => ("RootedFerry", "message", "LRootedFerry$Message;", true)
  | 5 => ("RootedFerry", "cargo", "LRootedFerry$Cargo;", true)
  | 6 => ("RootedFerry", "earlier", "LRootedFerry$Memory;", true)
  | 7 => ("RootedFerry", "later", "LRootedFerry$Memory;", true)
  | 8 => ("RootedFerry", "connected", "Z", false)
  | 9 => ("RootedFerry", "lastReply", "I", false)
  | 10 => ("RootedFerry", "root", "LRootedFerry$Node;", false)
  | 11 => ("RootedFerry", "current", "LRootedFerry$Node;", false)
  | 12 => ("RootedFerry", "image", "Z", false)
  | 13 => ("RootedFerry", "way", "LRootedFerry$Way;", false)
  | 14 => ("RootedFerry", "calledPort", "I", false)
  | _ => ("RootedFerry", "clientPort", "I", false)
def tyX12 : Nat → FieldType := fun k => match k with
  | 0 => .object "RootedFerry$Line"
  | 1 => .object "RootedFerry$Tree"
  | 2 => .object "java/util/ArrayList"
  | 3 => .object "RootedFerry$Path"
  | 4 => .object "RootedFerry$Message"
  | 5 => .object "RootedFerry$Cargo"
  | 6 => .object "RootedFerry$Memory"
  | 7 => .object "RootedFerry$Memory"
  | 8 => .boolean
  | 9 => .int
  | 10 => .object "RootedFerry$Node"
  | 11 => .object "RootedFerry$Node"
  | 12 => .boolean
  | 13 => .object "RootedFerry$Way"
  | 14 => .int
  | _ => .int
abbrev wsX120 : List Cond := u_ws RX12 TX12 16
theorem nmX12 : ∀ a, a < 16 → ∀ b, b < 16 → a ≠ b → (TX12 a).2.1 ≠ (TX12 b).2.1 := by decide +kernel
theorem tyX12_ok : ∀ k, k < 16 → parseFieldDescriptor (TX12 k).2.2.1 = some (tyX12 k) := by decide +kernel
abbrev cX12_init : ByteArray := prog_1_method_1_code
def yX12_init : MethodName := ⟨RX12, "<init>", "()V"⟩
abbrev cX12_account : ByteArray := prog_1_method_2_code
def yX12_account : MethodName := ⟨RX12, "account", "(JJ)Z"⟩
abbrev cX12_open : ByteArray := prog_1_method_3_code
def yX12_open : MethodName := ⟨RX12, "open", "()Z"⟩
abbrev cX12_type : ByteArray := prog_1_method_4_code
def yX12_type : MethodName := ⟨RX12, "type", "(C)Z"⟩
abbrev cX12_word : ByteArray := prog_1_method_5_code
def yX12_word : MethodName := ⟨RX12, "word", "(J)I"⟩
abbrev cX12_enter : ByteArray := prog_1_method_6_code
def yX12_enter : MethodName := ⟨RX12, "enter", "()I"⟩
abbrev cX12_reply : ByteArray := prog_1_method_7_code
def yX12_reply : MethodName := ⟨RX12, "reply", "()I"⟩
abbrev cX12_text : ByteArray := prog_1_method_8_code
def yX12_text : MethodName := ⟨RX12, "text", "(I)C"⟩
abbrev cX12_join : ByteArray := prog_1_method_9_code
def yX12_join : MethodName := ⟨RX12, "join", "()Z"⟩
abbrev cX12_listen : ByteArray := prog_1_method_10_code
def yX12_listen : MethodName := ⟨RX12, "listen", "(I)Z"⟩
abbrev cX12_take : ByteArray := prog_1_method_11_code
def yX12_take : MethodName := ⟨RX12, "take", "()I"⟩
abbrev cX12_give : ByteArray := prog_1_method_12_code
def yX12_give : MethodName := ⟨RX12, "give", "(I)Z"⟩
abbrev cX12_end : ByteArray := prog_1_method_13_code
def yX12_end : MethodName := ⟨RX12, "end", "()I"⟩
abbrev cX12_transfer : ByteArray := prog_1_method_14_code
def yX12_transfer : MethodName := ⟨RX12, "transfer", "()I"⟩
abbrev cX12_nodes : ByteArray := prog_1_method_15_code
def yX12_nodes : MethodName := ⟨RX12, "nodes", "()I"⟩
abbrev cX12_bytes : ByteArray := prog_1_method_16_code
def yX12_bytes : MethodName := ⟨RX12, "bytes", "()I"⟩
abbrev cX12_accountOf : ByteArray := prog_1_method_17_code
def yX12_accountOf : MethodName := ⟨RX12, "accountOf", "(J)LRootedFerry$Account;"⟩
abbrev cX12_logOut : ByteArray := prog_1_method_18_code
def yX12_logOut : MethodName := ⟨RX12, "logOut", "()V"⟩
abbrev cX12_dropTransfer : ByteArray := prog_1_method_19_code
def yX12_dropTransfer : MethodName := ⟨RX12, "dropTransfer", "()V"⟩
abbrev cX12_answerLine : ByteArray := prog_1_method_20_code
def yX12_answerLine : MethodName := ⟨RX12, "answerLine", "()I"⟩
abbrev cX12_commandOfLine : ByteArray := prog_1_method_21_code
def yX12_commandOfLine : MethodName := ⟨RX12, "commandOfLine", "()LRootedFerry$Command;"⟩
abbrev cX12_argumentFits : ByteArray := prog_1_method_22_code
def yX12_argumentFits : MethodName := ⟨RX12, "argumentFits", "(LRootedFerry$Command;)Z"⟩
abbrev cX12_run : ByteArray := prog_1_method_23_code
def yX12_run : MethodName := ⟨RX12, "run", "(LRootedFerry$Command;)I"⟩
abbrev cX12_runOnPath : ByteArray := prog_1_method_24_code
def yX12_runOnPath : MethodName := ⟨RX12, "runOnPath", "(LRootedFerry$Command;)I"⟩
abbrev cX12_nameUser : ByteArray := prog_1_method_25_code
def yX12_nameUser : MethodName := ⟨RX12, "nameUser", "()I"⟩
abbrev cX12_logIn : ByteArray := prog_1_method_26_code
def yX12_logIn : MethodName := ⟨RX12, "logIn", "()I"⟩
abbrev cX12_quit : ByteArray := prog_1_method_27_code
def yX12_quit : MethodName := ⟨RX12, "quit", "()I"⟩
abbrev cX12_changeTo : ByteArray := prog_1_method_28_code
def yX12_changeTo : MethodName := ⟨RX12, "changeTo", "(LRootedFerry$Node;I)I"⟩
abbrev cX12_makeDirectory : ByteArray := prog_1_method_29_code
def yX12_makeDirectory : MethodName := ⟨RX12, "makeDirectory", "()I"⟩
abbrev cX12_removeDirectory : ByteArray := prog_1_method_30_code
def yX12_removeDirectory : MethodName := ⟨RX12, "removeDirectory", "()I"⟩
abbrev cX12_deleteFile : ByteArray := prog_1_method_31_code
def yX12_deleteFile : MethodName := ⟨RX12, "deleteFile", "()I"⟩
abbrev cX12_tellSize : ByteArray := prog_1_method_32_code
def yX12_tellSize : MethodName := ⟨RX12, "tellSize", "()I"⟩
abbrev cX12_renameFrom : ByteArray := prog_1_method_33_code
def yX12_renameFrom : MethodName := ⟨RX12, "renameFrom", "()I"⟩
abbrev cX12_renameTo : ByteArray := prog_1_method_34_code
def yX12_renameTo : MethodName := ⟨RX12, "renameTo", "()I"⟩
abbrev cX12_chooseType : ByteArray := prog_1_method_35_code
def yX12_chooseType : MethodName := ⟨RX12, "chooseType", "()I"⟩
abbrev cX12_restart : ByteArray := prog_1_method_36_code
def yX12_restart : MethodName := ⟨RX12, "restart", "()I"⟩
abbrev cX12_abort : ByteArray := prog_1_method_37_code
def yX12_abort : MethodName := ⟨RX12, "abort", "()I"⟩
abbrev cX12_retrieve : ByteArray := prog_1_method_38_code
def yX12_retrieve : MethodName := ⟨RX12, "retrieve", "()I"⟩
abbrev cX12_listNames : ByteArray := prog_1_method_39_code
def yX12_listNames : MethodName := ⟨RX12, "listNames", "()I"⟩
abbrev cX12_takeFile : ByteArray := prog_1_method_40_code
def yX12_takeFile : MethodName := ⟨RX12, "takeFile", "(Z)I"⟩
abbrev cX12_dataConnects : ByteArray := prog_1_method_41_code
def yX12_dataConnects : MethodName := ⟨RX12, "dataConnects", "()Z"⟩
abbrev cX12_storeCargo : ByteArray := prog_1_method_42_code
def yX12_storeCargo : MethodName := ⟨RX12, "storeCargo", "()Z"⟩
def RX13 : String := "RootedFerryModel"
def TX13 : u_T := fun k => match k with
  | 0 => ("RootedFerryModel", "kind", "[I", true)
  | 1 => ("RootedFerryModel", "parent", "[I", true)
  | 2 => ("RootedFerryModel", "name", "[J", true)
  | 3 => ("RootedFerryModel", "size", "[I", true)
  | 4 => ("RootedFerryModel", "data", "[I", true)
  | 5 => ("RootedFerryModel", "accounts", "I", false)
  | 6 => ("RootedFerryModel", "users", "[J", true)
  | 7 => ("RootedFerryModel", "passwords", "[J", true)
  | 8 => ("RootedFerryModel", "roots", "[I", true)
  | 9 => ("RootedFerryModel", "length", "I", false)
  | 10 => ("RootedFerryModel", "line", "[C", true)
  | 11 => ("RootedFerryModel", "from", "I", false)
  | 12 => ("RootedFerryModel", "open", "Z", false)
  | 13 => ("RootedFerryModel", "last", "I", false)
  | 14 => ("RootedFerryModel", "texted", "I", false)
  | 15 => ("RootedFerryModel", "written", "[C", true)
  | 16 => ("RootedFerryModel", "root", "I", false)
  | 17 => ("RootedFerryModel", "current", "I", false)
  | 18 => ("RootedFerryModel", "image", "Z", false)
  | 19 => ("RootedFerryModel", "named", "J", false)
  | 20 => ("RootedFerryModel", "renamed", "I", false)
  | 21 => ("RootedFerryModel", "restart", "I", false)
  | 22 => ("RootedFerryModel", "namedBefore", "J", false)
  | 23 => ("RootedFerryModel", "renamedBefore", "I", false)
  | 24 => ("RootedFerryModel", "restartBefore", "I", false)
  | 25 => ("RootedFerryModel", "way", "I", false)
  | 26 => ("RootedFerryModel", "calling", "I", false)
  | 27 => ("RootedFerryModel", "listening", "I", false)
  | 28 => ("RootedFerryModel", "moving", "I", false)
  | 29 => ("RootedFerryModel", "moved", "I", false)
  | 30 => ("RootedFerryModel", "many", "I", false)
  | 31 => ("RootedFerryModel", "load", "[I", true)
  | 32 => ("RootedFerryModel", "target", "I", false)
  | 33 => ("RootedFerryModel", "append", "Z", false)
  | 34 => ("RootedFerryModel", "placeIn", "I", false)
  | _ => ("RootedFerryModel", "placeName", "J", false)
def tyX13 : Nat → FieldType := fun k => match k with
  | 0 => .array .int
  | 1 => .array .int
  | 2 => .array .long
  | 3 => .array .int
  | 4 => .array .int
  | 5 => .int
  | 6 => .array .long
  | 7 => .array .long
  | 8 => .array .int
  | 9 => .int
  | 10 => .array .char
  | 11 => .int
  | 12 => .boolean
  | 13 => .int
  | 14 => .int
  | 15 => .array .char
  | 16 => .int
  | 17 => .int
  | 18 => .boolean
  | 19 => .long
  | 20 => .int
  | 21 => .int
  | 22 => .long
  | 23 => .int
  | 24 => .int
  | 25 => .int
  | 26 => .int
  | 27 => .int
  | 28 => .int
  | 29 => .int
  | 30 => .int
  | 31 => .array .int
  | 32 => .int
  | 33 => .boolean
  | 34 => .int
  | _ => .long
abbrev wsX130 : List Cond := u_ws RX13 TX13 36
theorem nmX13 : ∀ a, a < 36 → ∀ b, b < 36 → a ≠ b → (TX13 a).2.1 ≠ (TX13 b).2.1 := by decide +kernel
theorem tyX13_ok : ∀ k, k < 36 → parseFieldDescriptor (TX13 k).2.2.1 = some (tyX13 k) := by decide +kernel
abbrev cX13_init : ByteArray := prog_15_method_1_code
def yX13_init : MethodName := ⟨RX13, "<init>", "()V"⟩
abbrev cX13_fits : ByteArray := prog_15_method_2_code
def yX13_fits : MethodName := ⟨RX13, "fits", "(J)Z"⟩
abbrev cX13_nameAt : ByteArray := prog_15_method_3_code
def yX13_nameAt : MethodName := ⟨RX13, "nameAt", "(II)J"⟩
abbrev cX13_isDots : ByteArray := prog_15_method_4_code
def yX13_isDots : MethodName := ⟨RX13, "isDots", "(II)I"⟩
abbrev cX13_endOfPart : ByteArray := prog_15_method_5_code
def yX13_endOfPart : MethodName := ⟨RX13, "endOfPart", "(I)I"⟩
abbrev cX13_isPath : ByteArray := prog_15_method_6_code
def yX13_isPath : MethodName := ⟨RX13, "isPath", "()Z"⟩
abbrev cX13_child : ByteArray := prog_15_method_7_code
def yX13_child : MethodName := ⟨RX13, "child", "(IJ)I"⟩
abbrev cX13_go : ByteArray := prog_15_method_8_code
def yX13_go : MethodName := ⟨RX13, "go", "(III)I"⟩
abbrev cX13_lead : ByteArray := prog_15_method_9_code
def yX13_lead : MethodName := ⟨RX13, "lead", "(I)I"⟩
abbrev cX13_findPlace : ByteArray := prog_15_method_10_code
def yX13_findPlace : MethodName := ⟨RX13, "findPlace", "()Z"⟩
abbrev cX13_freeNode : ByteArray := prog_15_method_11_code
def yX13_freeNode : MethodName := ⟨RX13, "freeNode", "()I"⟩
abbrev cX13_make : ByteArray := prog_15_method_12_code
def yX13_make : MethodName := ⟨RX13, "make", "(IIIJ)V"⟩
abbrev cX13_nodes : ByteArray := prog_15_method_13_code
def yX13_nodes : MethodName := ⟨RX13, "nodes", "()I"⟩
abbrev cX13_bytes : ByteArray := prog_15_method_14_code
def yX13_bytes : MethodName := ⟨RX13, "bytes", "()I"⟩
abbrev cX13_isEmpty : ByteArray := prog_15_method_15_code
def yX13_isEmpty : MethodName := ⟨RX13, "isEmpty", "(I)Z"⟩
abbrev cX13_nameOf : ByteArray := prog_15_method_16_code
def yX13_nameOf : MethodName := ⟨RX13, "nameOf", "(J)J"⟩
abbrev cX13_account : ByteArray := prog_15_method_17_code
def yX13_account : MethodName := ⟨RX13, "account", "(JJ)Z"⟩
abbrev cX13_say : ByteArray := prog_15_method_18_code
def yX13_say : MethodName := ⟨RX13, "say", "(I)I"⟩
abbrev cX13_open : ByteArray := prog_15_method_19_code
def yX13_open : MethodName := ⟨RX13, "open", "()Z"⟩
abbrev cX13_type : ByteArray := prog_15_method_20_code
def yX13_type : MethodName := ⟨RX13, "type", "(C)Z"⟩
abbrev cX13_word : ByteArray := prog_15_method_21_code
def yX13_word : MethodName := ⟨RX13, "word", "(J)I"⟩
abbrev cX13_reply : ByteArray := prog_15_method_22_code
def yX13_reply : MethodName := ⟨RX13, "reply", "()I"⟩
abbrev cX13_text : ByteArray := prog_15_method_23_code
def yX13_text : MethodName := ⟨RX13, "text", "(I)C"⟩
abbrev cX13_pack : ByteArray := prog_15_method_24_code
def yX13_pack : MethodName := ⟨RX13, "pack", "(IIII)I"⟩
abbrev cX13_readLetters : ByteArray := prog_15_method_25_code
def yX13_readLetters : MethodName := ⟨RX13, "readLetters", "()I"⟩
abbrev cX13_commandOf : ByteArray := prog_15_method_26_code
def yX13_commandOf : MethodName := ⟨RX13, "commandOf", "(I)I"⟩
abbrev cX13_isDigit : ByteArray := prog_15_method_27_code
def yX13_isDigit : MethodName := ⟨RX13, "isDigit", "(I)Z"⟩
abbrev cX13_digitsFrom : ByteArray := prog_15_method_28_code
def yX13_digitsFrom : MethodName := ⟨RX13, "digitsFrom", "(I)I"⟩
abbrev cX13_numberAt : ByteArray := prog_15_method_29_code
def yX13_numberAt : MethodName := ⟨RX13, "numberAt", "(II)I"⟩
abbrev cX13_portTold : ByteArray := prog_15_method_30_code
def yX13_portTold : MethodName := ⟨RX13, "portTold", "()I"⟩
abbrev cX13_argumentFits : ByteArray := prog_15_method_31_code
def yX13_argumentFits : MethodName := ⟨RX13, "argumentFits", "(I)Z"⟩
abbrev cX13_enter : ByteArray := prog_15_method_32_code
def yX13_enter : MethodName := ⟨RX13, "enter", "()I"⟩
abbrev cX13_run : ByteArray := prog_15_method_33_code
def yX13_run : MethodName := ⟨RX13, "run", "()I"⟩
abbrev cX13_enterAs : ByteArray := prog_15_method_34_code
def yX13_enterAs : MethodName := ⟨RX13, "enterAs", "(I)I"⟩
abbrev cX13_write : ByteArray := prog_15_method_35_code
def yX13_write : MethodName := ⟨RX13, "write", "(I)V"⟩
abbrev cX13_writeWay : ByteArray := prog_15_method_36_code
def yX13_writeWay : MethodName := ⟨RX13, "writeWay", "(I)V"⟩
abbrev cX13_makeDirectory : ByteArray := prog_15_method_37_code
def yX13_makeDirectory : MethodName := ⟨RX13, "makeDirectory", "()I"⟩
abbrev cX13_sizeTold : ByteArray := prog_15_method_38_code
def yX13_sizeTold : MethodName := ⟨RX13, "sizeTold", "(I)I"⟩
abbrev cX13_liesIn : ByteArray := prog_15_method_39_code
def yX13_liesIn : MethodName := ⟨RX13, "liesIn", "(II)Z"⟩
abbrev cX13_rename : ByteArray := prog_15_method_40_code
def yX13_rename : MethodName := ⟨RX13, "rename", "()I"⟩
abbrev cX13_change : ByteArray := prog_15_method_41_code
def yX13_change : MethodName := ⟨RX13, "change", "(I)I"⟩
abbrev cX13_prepare : ByteArray := prog_15_method_42_code
def yX13_prepare : MethodName := ⟨RX13, "prepare", "(I)I"⟩
abbrev cX13_transferBy : ByteArray := prog_15_method_43_code
def yX13_transferBy : MethodName := ⟨RX13, "transferBy", "(I)I"⟩
abbrev cX13_put : ByteArray := prog_15_method_44_code
def yX13_put : MethodName := ⟨RX13, "put", "(I)V"⟩
abbrev cX13_loadFile : ByteArray := prog_15_method_45_code
def yX13_loadFile : MethodName := ⟨RX13, "loadFile", "(I)V"⟩
abbrev cX13_loadNames : ByteArray := prog_15_method_46_code
def yX13_loadNames : MethodName := ⟨RX13, "loadNames", "(I)V"⟩
abbrev cX13_join : ByteArray := prog_15_method_47_code
def yX13_join : MethodName := ⟨RX13, "join", "()Z"⟩
abbrev cX13_listen : ByteArray := prog_15_method_48_code
def yX13_listen : MethodName := ⟨RX13, "listen", "(I)Z"⟩
abbrev cX13_take : ByteArray := prog_15_method_49_code
def yX13_take : MethodName := ⟨RX13, "take", "()I"⟩
abbrev cX13_give : ByteArray := prog_15_method_50_code
def yX13_give : MethodName := ⟨RX13, "give", "(I)Z"⟩
abbrev cX13_staying : ByteArray := prog_15_method_51_code
def yX13_staying : MethodName := ⟨RX13, "staying", "()I"⟩
abbrev cX13_end : ByteArray := prog_15_method_52_code
def yX13_end : MethodName := ⟨RX13, "end", "()I"⟩
abbrev cX13_transfer : ByteArray := prog_15_method_53_code
def yX13_transfer : MethodName := ⟨RX13, "transfer", "()I"⟩
def RJx145de : String := "java/io/Serializable"
def TJx145de : u_T := fun k => match k with
  | _ => ("", "", "", false)
def tyJx145de : Nat → FieldType := fun k => match k with
  | _ => .int
abbrev wsJx145de0 : List Cond := u_ws RJx145de TJx145de 0
theorem nmJx145de : ∀ a, a < 0 → ∀ b, b < 0 → a ≠ b → (TJx145de a).2.1 ≠ (TJx145de b).2.1 := by decide +kernel
theorem tyJx145de_ok : ∀ k, k < 0 → parseFieldDescriptor (TJx145de k).2.2.1 = some (tyJx145de k) := by decide +kernel
def RJx9f9b0 : String := "java/lang/CharSequence"
def TJx9f9b0 : u_T := fun k => match k with
  | _ => ("", "", "", false)
def tyJx9f9b0 : Nat → FieldType := fun k => match k with
  | _ => .int
abbrev wsJx9f9b00 : List Cond := u_ws RJx9f9b0 TJx9f9b0 0
theorem nmJx9f9b0 : ∀ a, a < 0 → ∀ b, b < 0 → a ≠ b → (TJx9f9b0 a).2.1 ≠ (TJx9f9b0 b).2.1 := by decide +kernel
theorem tyJx9f9b0_ok : ∀ k, k < 0 → parseFieldDescriptor (TJx9f9b0 k).2.2.1 = some (tyJx9f9b0 k) := by decide +kernel
def RJx8e188 : String := "java/lang/Cloneable"
def TJx8e188 : u_T := fun k => match k with
  | _ => ("", "", "", false)
def tyJx8e188 : Nat → FieldType := fun k => match k with
  | _ => .int
abbrev wsJx8e1880 : List Cond := u_ws RJx8e188 TJx8e188 0
theorem nmJx8e188 : ∀ a, a < 0 → ∀ b, b < 0 → a ≠ b → (TJx8e188 a).2.1 ≠ (TJx8e188 b).2.1 := by decide +kernel
theorem tyJx8e188_ok : ∀ k, k < 0 → parseFieldDescriptor (TJx8e188 k).2.2.1 = some (tyJx8e188 k) := by decide +kernel
def RJxb160c : String := "java/lang/Comparable"
def TJxb160c : u_T := fun k => match k with
  | _ => ("", "", "", false)
def tyJxb160c : Nat → FieldType := fun k => match k with
  | _ => .int
abbrev wsJxb160c0 : List Cond := u_ws RJxb160c TJxb160c 0
theorem nmJxb160c : ∀ a, a < 0 → ∀ b, b < 0 → a ≠ b → (TJxb160c a).2.1 ≠ (TJxb160c b).2.1 := by decide +kernel
theorem tyJxb160c_ok : ∀ k, k < 0 → parseFieldDescriptor (TJxb160c k).2.2.1 = some (tyJxb160c k) := by decide +kernel
def RJx29ce0 : String := "java/lang/Enum"
def TJx29ce0 : u_T := fun k => match k with
  | _ => ("", "", "", false)
def tyJx29ce0 : Nat → FieldType := fun k => match k with
  | _ => .int
abbrev wsJx29ce00 : List Cond := u_ws RJx29ce0 TJx29ce0 0
theorem nmJx29ce0 : ∀ a, a < 0 → ∀ b, b < 0 → a ≠ b → (TJx29ce0 a).2.1 ≠ (TJx29ce0 b).2.1 := by decide +kernel
theorem tyJx29ce0_ok : ∀ k, k < 0 → parseFieldDescriptor (TJx29ce0 k).2.2.1 = some (tyJx29ce0 k) := by decide +kernel
abbrev cJx29ce0_ordinal_8abf5 : ByteArray := prog_18_method_2_code
def yJx29ce0_ordinal_8abf5 : MethodName := ⟨RJx29ce0, "ordinal", "()I"⟩
def RJxab1ab : String := "java/lang/Iterable"
def TJxab1ab : u_T := fun k => match k with
  | _ => ("", "", "", false)
def tyJxab1ab : Nat → FieldType := fun k => match k with
  | _ => .int
abbrev wsJxab1ab0 : List Cond := u_ws RJxab1ab TJxab1ab 0
theorem nmJxab1ab : ∀ a, a < 0 → ∀ b, b < 0 → a ≠ b → (TJxab1ab a).2.1 ≠ (TJxab1ab b).2.1 := by decide +kernel
theorem tyJxab1ab_ok : ∀ k, k < 0 → parseFieldDescriptor (TJxab1ab k).2.2.1 = some (tyJxab1ab k) := by decide +kernel
def RJ9 : String := "java/lang/Math"
def TJ9 : u_T := fun k => match k with
  | _ => ("", "", "", false)
def tyJ9 : Nat → FieldType := fun k => match k with
  | _ => .int
abbrev wsJ90 : List Cond := u_ws RJ9 TJ9 0
theorem nmJ9 : ∀ a, a < 0 → ∀ b, b < 0 → a ≠ b → (TJ9 a).2.1 ≠ (TJ9 b).2.1 := by decide +kernel
theorem tyJ9_ok : ∀ k, k < 0 → parseFieldDescriptor (TJ9 k).2.2.1 = some (tyJ9 k) := by decide +kernel
abbrev cJ9_max_7cf53 : ByteArray := prog_20_method_65_code
def yJ9_max_7cf53 : MethodName := ⟨RJ9, "max", "(II)I"⟩
abbrev cJ9_min_7cf53 : ByteArray := prog_20_method_69_code
def yJ9_min_7cf53 : MethodName := ⟨RJ9, "min", "(II)I"⟩
def RJ0 : String := "java/lang/String"
def TJ0 : u_T := fun k => match k with
  | _ => ("", "", "", false)
def tyJ0 : Nat → FieldType := fun k => match k with
  | _ => .int
abbrev wsJ00 : List Cond := u_ws RJ0 TJ0 0
theorem nmJ0 : ∀ a, a < 0 → ∀ b, b < 0 → a ≠ b → (TJ0 a).2.1 ≠ (TJ0 b).2.1 := by decide +kernel
theorem tyJ0_ok : ∀ k, k < 0 → parseFieldDescriptor (TJ0 k).2.2.1 = some (tyJ0 k) := by decide +kernel
abbrev cJ0_length_8abf5 : ByteArray := prog_21_method_54_code
def yJ0_length_8abf5 : MethodName := ⟨RJ0, "length", "()I"⟩
abbrev cJ0_charAt_5068e : ByteArray := prog_21_method_56_code
def yJ0_charAt_5068e : MethodName := ⟨RJ0, "charAt", "(I)C"⟩
abbrev cJ0_coder_7d493 : ByteArray := prog_21_method_152_code
def yJ0_coder_7d493 : MethodName := ⟨RJ0, "coder", "()B"⟩
abbrev cJ0_isLatin1_aae02 : ByteArray := prog_21_method_154_code
def yJ0_isLatin1_aae02 : MethodName := ⟨RJ0, "isLatin1", "()Z"⟩
abbrev cJ0_checkIndex_df160 : ByteArray := prog_21_method_155_code
def yJ0_checkIndex_df160 : MethodName := ⟨RJ0, "checkIndex", "(II)V"⟩
def RJ1 : String := "java/lang/StringLatin1"
def TJ1 : u_T := fun k => match k with
  | _ => ("", "", "", false)
def tyJ1 : Nat → FieldType := fun k => match k with
  | _ => .int
abbrev wsJ10 : List Cond := u_ws RJ1 TJ1 0
theorem nmJ1 : ∀ a, a < 0 → ∀ b, b < 0 → a ≠ b → (TJ1 a).2.1 ≠ (TJ1 b).2.1 := by decide +kernel
theorem tyJ1_ok : ∀ k, k < 0 → parseFieldDescriptor (TJ1 k).2.2.1 = some (tyJ1 k) := by decide +kernel
abbrev cJ1_charAt_3b067 : ByteArray := prog_22_method_2_code
def yJ1_charAt_3b067 : MethodName := ⟨RJ1, "charAt", "([BI)C"⟩
def RJ2 : String := "java/lang/StringUTF16"
def TJ2 : u_T := fun k => match k with
  | _ => ("", "", "", false)
def tyJ2 : Nat → FieldType := fun k => match k with
  | _ => .int
abbrev wsJ20 : List Cond := u_ws RJ2 TJ2 0
theorem nmJ2 : ∀ a, a < 0 → ∀ b, b < 0 → a ≠ b → (TJ2 a).2.1 ≠ (TJ2 b).2.1 := by decide +kernel
theorem tyJ2_ok : ∀ k, k < 0 → parseFieldDescriptor (TJ2 k).2.2.1 = some (tyJ2 k) := by decide +kernel
abbrev cJ2_getChar_3b067 : ByteArray := prog_23_method_5_code
def yJ2_getChar_3b067 : MethodName := ⟨RJ2, "getChar", "([BI)C"⟩
abbrev cJ2_length_9d52b : ByteArray := prog_23_method_6_code
def yJ2_length_9d52b : MethodName := ⟨RJ2, "length", "([B)I"⟩
abbrev cJ2_charAt_3b067 : ByteArray := prog_23_method_83_code
def yJ2_charAt_3b067 : MethodName := ⟨RJ2, "charAt", "([BI)C"⟩
abbrev cJ2_checkIndex_2214a : ByteArray := prog_23_method_91_code
def yJ2_checkIndex_2214a : MethodName := ⟨RJ2, "checkIndex", "(I[B)V"⟩
def RJ10 : String := "java/lang/System"
def TJ10 : u_T := fun k => match k with
  | _ => ("", "", "", false)
def tyJ10 : Nat → FieldType := fun k => match k with
  | _ => .int
abbrev wsJ100 : List Cond := u_ws RJ10 TJ10 0
theorem nmJ10 : ∀ a, a < 0 → ∀ b, b < 0 → a ≠ b → (TJ10 a).2.1 ≠ (TJ10 b).2.1 := by decide +kernel
theorem tyJ10_ok : ∀ k, k < 0 → parseFieldDescriptor (TJ10 k).2.2.1 = some (tyJ10 k) := by decide +kernel
def RJxfd54e : String := "java/lang/constant/Constable"
def TJxfd54e : u_T := fun k => match k with
  | _ => ("", "", "", false)
def tyJxfd54e : Nat → FieldType := fun k => match k with
  | _ => .int
abbrev wsJxfd54e0 : List Cond := u_ws RJxfd54e TJxfd54e 0
theorem nmJxfd54e : ∀ a, a < 0 → ∀ b, b < 0 → a ≠ b → (TJxfd54e a).2.1 ≠ (TJxfd54e b).2.1 := by decide +kernel
theorem tyJxfd54e_ok : ∀ k, k < 0 → parseFieldDescriptor (TJxfd54e k).2.2.1 = some (tyJxfd54e k) := by decide +kernel
def RJx3cf43 : String := "java/lang/constant/ConstantDesc"
def TJx3cf43 : u_T := fun k => match k with
  | _ => ("", "", "", false)
def tyJx3cf43 : Nat → FieldType := fun k => match k with
  | _ => .int
abbrev wsJx3cf430 : List Cond := u_ws RJx3cf43 TJx3cf43 0
theorem nmJx3cf43 : ∀ a, a < 0 → ∀ b, b < 0 → a ≠ b → (TJx3cf43 a).2.1 ≠ (TJx3cf43 b).2.1 := by decide +kernel
theorem tyJx3cf43_ok : ∀ k, k < 0 → parseFieldDescriptor (TJx3cf43 k).2.2.1 = some (tyJx3cf43 k) := by decide +kernel
def RJxa1e45 : String := "java/util/AbstractCollection"
def TJxa1e45 : u_T := fun k => match k with
  | _ => ("", "", "", false)
def tyJxa1e45 : Nat → FieldType := fun k => match k with
  | _ => .int
abbrev wsJxa1e450 : List Cond := u_ws RJxa1e45 TJxa1e45 0
theorem nmJxa1e45 : ∀ a, a < 0 → ∀ b, b < 0 → a ≠ b → (TJxa1e45 a).2.1 ≠ (TJxa1e45 b).2.1 := by decide +kernel
theorem tyJxa1e45_ok : ∀ k, k < 0 → parseFieldDescriptor (TJxa1e45 k).2.2.1 = some (tyJxa1e45 k) := by decide +kernel
abbrev cJxa1e45_init_da8c8 : ByteArray := prog_25_method_1_code
def yJxa1e45_init_da8c8 : MethodName := ⟨RJxa1e45, "<init>", "()V"⟩
def RJxc12de : String := "java/util/AbstractList"
def TJxc12de : u_T := fun k => match k with
  | _ => ("", "", "", false)
def tyJxc12de : Nat → FieldType := fun k => match k with
  | _ => .int
abbrev wsJxc12de0 : List Cond := u_ws RJxc12de TJxc12de 0
theorem nmJxc12de : ∀ a, a < 0 → ∀ b, b < 0 → a ≠ b → (TJxc12de a).2.1 ≠ (TJxc12de b).2.1 := by decide +kernel
theorem tyJxc12de_ok : ∀ k, k < 0 → parseFieldDescriptor (TJxc12de k).2.2.1 = some (tyJxc12de k) := by decide +kernel
abbrev cJxc12de_init_da8c8 : ByteArray := prog_26_method_1_code
def yJxc12de_init_da8c8 : MethodName := ⟨RJxc12de, "<init>", "()V"⟩
def RJx4a65c : String := "java/util/ArrayList"
def TJx4a65c : u_T := fun k => match k with
  | 0 => ("java/util/AbstractList", "modCount", "I", false)
  | 1 => ("java/util/ArrayList", "elementData", "[Ljava/lang/Object;", false)
  | _ => ("java/util/ArrayList", "size", "I", false)
def tyJx4a65c : Nat → FieldType := fun k => match k with
  | 0 => .int
  | 1 => .array (.object "java/lang/Object")
  | _ => .int
abbrev wsJx4a65c0 : List Cond := u_ws RJx4a65c TJx4a65c 3
theorem nmJx4a65c : ∀ a, a < 3 → ∀ b, b < 3 → a ≠ b → (TJx4a65c a).2.1 ≠ (TJx4a65c b).2.1 := by decide +kernel
theorem tyJx4a65c_ok : ∀ k, k < 3 → parseFieldDescriptor (TJx4a65c k).2.2.1 = some (tyJx4a65c k) := by decide +kernel
abbrev cJx4a65c_init_da8c8 : ByteArray := prog_27_method_2_code
def yJx4a65c_init_da8c8 : MethodName := ⟨RJx4a65c, "<init>", "()V"⟩
abbrev cJx4a65c_grow_92f84 : ByteArray := prog_27_method_6_code
def yJx4a65c_grow_92f84 : MethodName := ⟨RJx4a65c, "grow", "(I)[Ljava/lang/Object;"⟩
abbrev cJx4a65c_grow_d5877 : ByteArray := prog_27_method_7_code
def yJx4a65c_grow_d5877 : MethodName := ⟨RJx4a65c, "grow", "()[Ljava/lang/Object;"⟩
abbrev cJx4a65c_size_8abf5 : ByteArray := prog_27_method_8_code
def yJx4a65c_size_8abf5 : MethodName := ⟨RJx4a65c, "size", "()I"⟩
abbrev cJx4a65c_elementData_915e3 : ByteArray := prog_27_method_18_code
def yJx4a65c_elementData_915e3 : MethodName := ⟨RJx4a65c, "elementData", "(I)Ljava/lang/Object;"⟩
abbrev cJx4a65c_get_915e3 : ByteArray := prog_27_method_20_code
def yJx4a65c_get_915e3 : MethodName := ⟨RJx4a65c, "get", "(I)Ljava/lang/Object;"⟩
abbrev cJx4a65c_add_72be8 : ByteArray := prog_27_method_24_code
def yJx4a65c_add_72be8 : MethodName := ⟨RJx4a65c, "add", "(Ljava/lang/Object;[Ljava/lang/Object;I)V"⟩
abbrev cJx4a65c_add_9ea2d : ByteArray := prog_27_method_25_code
def yJx4a65c_add_9ea2d : MethodName := ⟨RJx4a65c, "add", "(Ljava/lang/Object;)Z"⟩
def RJ7 : String := "java/util/Arrays"
def TJ7 : u_T := fun k => match k with
  | _ => ("", "", "", false)
def tyJ7 : Nat → FieldType := fun k => match k with
  | _ => .int
abbrev wsJ70 : List Cond := u_ws RJ7 TJ7 0
theorem nmJ7 : ∀ a, a < 0 → ∀ b, b < 0 → a ≠ b → (TJ7 a).2.1 ≠ (TJ7 b).2.1 := by decide +kernel
theorem tyJ7_ok : ∀ k, k < 0 → parseFieldDescriptor (TJ7 k).2.2.1 = some (tyJ7 k) := by decide +kernel
abbrev cJ7_copyOf_1904c : ByteArray := prog_28_method_119_code
def yJ7_copyOf_1904c : MethodName := ⟨RJ7, "copyOf", "([Ljava/lang/Object;I)[Ljava/lang/Object;"⟩
abbrev cJ7_copyOf_6403c : ByteArray := prog_28_method_120_code
def yJ7_copyOf_6403c : MethodName := ⟨RJ7, "copyOf", "([Ljava/lang/Object;ILjava/lang/Class;)[Ljava/lang/Object;"⟩
def RJx5ef63 : String := "java/util/Collection"
def TJx5ef63 : u_T := fun k => match k with
  | _ => ("", "", "", false)
def tyJx5ef63 : Nat → FieldType := fun k => match k with
  | _ => .int
abbrev wsJx5ef630 : List Cond := u_ws RJx5ef63 TJx5ef63 0
theorem nmJx5ef63 : ∀ a, a < 0 → ∀ b, b < 0 → a ≠ b → (TJx5ef63 a).2.1 ≠ (TJx5ef63 b).2.1 := by decide +kernel
theorem tyJx5ef63_ok : ∀ k, k < 0 → parseFieldDescriptor (TJx5ef63 k).2.2.1 = some (tyJx5ef63 k) := by decide +kernel
def RJxbd725 : String := "java/util/List"
def TJxbd725 : u_T := fun k => match k with
  | _ => ("", "", "", false)
def tyJxbd725 : Nat → FieldType := fun k => match k with
  | _ => .int
abbrev wsJxbd7250 : List Cond := u_ws RJxbd725 TJxbd725 0
theorem nmJxbd725 : ∀ a, a < 0 → ∀ b, b < 0 → a ≠ b → (TJxbd725 a).2.1 ≠ (TJxbd725 b).2.1 := by decide +kernel
theorem tyJxbd725_ok : ∀ k, k < 0 → parseFieldDescriptor (TJxbd725 k).2.2.1 = some (tyJxbd725 k) := by decide +kernel
def RJ15 : String := "java/util/Objects"
def TJ15 : u_T := fun k => match k with
  | _ => ("", "", "", false)
def tyJ15 : Nat → FieldType := fun k => match k with
  | _ => .int
abbrev wsJ150 : List Cond := u_ws RJ15 TJ15 0
theorem nmJ15 : ∀ a, a < 0 → ∀ b, b < 0 → a ≠ b → (TJ15 a).2.1 ≠ (TJ15 b).2.1 := by decide +kernel
theorem tyJ15_ok : ∀ k, k < 0 → parseFieldDescriptor (TJ15 k).2.2.1 = some (tyJ15 k) := by decide +kernel
abbrev cJ15_checkIndex_7cf53 : ByteArray := prog_31_method_17_code
def yJ15_checkIndex_7cf53 : MethodName := ⟨RJ15, "checkIndex", "(II)I"⟩
def RJxf0a74 : String := "java/util/RandomAccess"
def TJxf0a74 : u_T := fun k => match k with
  | _ => ("", "", "", false)
def tyJxf0a74 : Nat → FieldType := fun k => match k with
  | _ => .int
abbrev wsJxf0a740 : List Cond := u_ws RJxf0a74 TJxf0a74 0
theorem nmJxf0a74 : ∀ a, a < 0 → ∀ b, b < 0 → a ≠ b → (TJxf0a74 a).2.1 ≠ (TJxf0a74 b).2.1 := by decide +kernel
theorem tyJxf0a74_ok : ∀ k, k < 0 → parseFieldDescriptor (TJxf0a74 k).2.2.1 = some (tyJxf0a74 k) := by decide +kernel
def RJxa66e6 : String := "java/util/SequencedCollection"
def TJxa66e6 : u_T := fun k => match k with
  | _ => ("", "", "", false)
def tyJxa66e6 : Nat → FieldType := fun k => match k with
  | _ => .int
abbrev wsJxa66e60 : List Cond := u_ws RJxa66e6 TJxa66e6 0
theorem nmJxa66e6 : ∀ a, a < 0 → ∀ b, b < 0 → a ≠ b → (TJxa66e6 a).2.1 ≠ (TJxa66e6 b).2.1 := by decide +kernel
theorem tyJxa66e6_ok : ∀ k, k < 0 → parseFieldDescriptor (TJxa66e6 k).2.2.1 = some (tyJxa66e6 k) := by decide +kernel
def RJ8 : String := "jdk/internal/util/ArraysSupport"
def TJ8 : u_T := fun k => match k with
  | _ => ("", "", "", false)
def tyJ8 : Nat → FieldType := fun k => match k with
  | _ => .int
abbrev wsJ80 : List Cond := u_ws RJ8 TJ8 0
theorem nmJ8 : ∀ a, a < 0 → ∀ b, b < 0 → a ≠ b → (TJ8 a).2.1 ≠ (TJ8 b).2.1 := by decide +kernel
theorem tyJ8_ok : ∀ k, k < 0 → parseFieldDescriptor (TJ8 k).2.2.1 = some (tyJ8 k) := by decide +kernel
abbrev cJ8_newLength_cabcc : ByteArray := prog_34_method_27_code
def yJ8_newLength_cabcc : MethodName := ⟨RJ8, "newLength", "(III)I"⟩
abbrev cJ8_hugeLength_7cf53 : ByteArray := prog_34_method_28_code
def yJ8_hugeLength_7cf53 : MethodName := ⟨RJ8, "hugeLength", "(II)I"⟩
def RJ3 : String := "jdk/internal/util/Preconditions"
def TJ3 : u_T := fun k => match k with
  | _ => ("", "", "", false)
def tyJ3 : Nat → FieldType := fun k => match k with
  | _ => .int
abbrev wsJ30 : List Cond := u_ws RJ3 TJ3 0
theorem nmJ3 : ∀ a, a < 0 → ∀ b, b < 0 → a ≠ b → (TJ3 a).2.1 ≠ (TJ3 b).2.1 := by decide +kernel
theorem tyJ3_ok : ∀ k, k < 0 → parseFieldDescriptor (TJ3 k).2.2.1 = some (tyJ3 k) := by decide +kernel
abbrev cJ3_checkIndex_8e157 : ByteArray := prog_35_method_11_code
def yJ3_checkIndex_8e157 : MethodName := ⟨RJ3, "checkIndex", "(IILjava/util/function/BiFunction;)I"⟩
def RL : String := "RootedFerryLaw"
abbrev cL_law : ByteArray := code
abbrev vwCl : List vw_C := [(RJx4a65c, TJx4a65c, 3), (RX1, TX1, 3), (RX2, TX2, 8), (RX4, TX4, 2), (RX5, TX5, 3), (RX6, TX6, 2), (RX8, TX8, 6), (RX9, TX9, 7), (RX10, TX10, 1), (RX12, TX12, 16), (RX13, TX13, 36)]
