/-! ===== BEGIN words of one list among another's, by their places ===== -/
theorem goodIn_r {big : List Cond} (ws : List Cond) (ps : List Nat) (hp : ws = ps.filterMap (fun i => big[i]?)) (h : ws.all goodWord = true) : GoodIn big ws := by
  intro w hw
  have h1 := List.all_eq_true.mp h w hw
  rw [hp] at hw
  obtain ⟨i, -, hi⟩ := List.mem_filterMap.mp hw
  have hm : w ∈ big := by first | exact List.mem_of_getElem? hi | exact List.getElem?_mem hi
  exact ⟨hm, good_of_word h1⟩
theorem goodIn_app {big a b : List Cond} (ha : GoodIn big a) (hb : GoodIn big b) : GoodIn big (a ++ b) := fun w h => (List.mem_append.mp h).elim (ha w) (hb w)
theorem goodIn_ca {big a b : List Cond} {c : Cond} (ha : GoodIn big (c :: a)) (hb : GoodIn big b) : GoodIn big (c :: (a ++ b)) := fun w h => (List.mem_cons.mp h).elim (fun e => ha w (List.mem_cons.mpr (Or.inl e))) (fun h => (List.mem_append.mp h).elim (fun h => ha w (List.mem_cons.mpr (Or.inr h))) (hb w))
theorem goodIn_sub {big ws : List Cond} (hm : ∀ w ∈ ws, w ∈ big) (h : ws.all goodWord = true) : GoodIn big ws := fun w hw => ⟨hm w hw, good_of_word (List.all_eq_true.mp h w hw)⟩
/-! ===== END ===== -/
/-! ===== BEGIN printed: names, fields, word lists, decode rows ===== -/
def RX0 : String := "SilentRent$Book"
def TX0 : u_T := fun k => match k with
  | 0 => ("SilentRent$Book", "length", "I", false)
  | 1 => ("SilentRent$Book", "who", "[I", true)
  | _ => ("SilentRent$Book", "lacks", "[I", true)
def tyX0 : Nat → FieldType := fun k => match k with
  | 0 => .int
  | 1 => .array .int
  | _ => .array .int
abbrev wsX00 : List Cond := u_ws RX0 TX0 3
theorem nmX0 : ∀ a, a < 3 → ∀ b, b < 3 → a ≠ b → (TX0 a).2.1 ≠ (TX0 b).2.1 := by decide +kernel
theorem tyX0_ok : ∀ k, k < 3 → parseFieldDescriptor (TX0 k).2.2.1 = some (tyX0 k) := by decide +kernel
abbrev cX0_init : ByteArray := prog_2_method_1_code
def yX0_init : MethodName := ⟨RX0, "<init>", "()V"⟩
abbrev cX0_roomsThatAgree : ByteArray := prog_2_method_2_code
def yX0_roomsThatAgree : MethodName := ⟨RX0, "roomsThatAgree", "(LSilentRent$House;I)I"⟩
abbrev cX0_agrees : ByteArray := prog_2_method_3_code
def yX0_agrees : MethodName := ⟨RX0, "agrees", "(II)Z"⟩
def RX1 : String := "SilentRent$Fitting"
def TX1 : u_T := fun k => match k with
  | 0 => ("SilentRent$Fitting", "ways", "[I", true)
  | 1 => ("SilentRent$Fitting", "reached", "[Z", true)
  | 2 => ("SilentRent$Fitting", "open", "[I", true)
  | _ => ("SilentRent$Fitting", "rooms", "I", false)
def tyX1 : Nat → FieldType := fun k => match k with
  | 0 => .array .int
  | 1 => .array .boolean
  | 2 => .array .int
  | _ => .int
abbrev wsX10 : List Cond := u_ws RX1 TX1 4
theorem nmX1 : ∀ a, a < 4 → ∀ b, b < 4 → a ≠ b → (TX1 a).2.1 ≠ (TX1 b).2.1 := by decide +kernel
theorem tyX1_ok : ∀ k, k < 4 → parseFieldDescriptor (TX1 k).2.2.1 = some (tyX1 k) := by decide +kernel
abbrev cX1_init : ByteArray := prog_3_method_1_code
def yX1_init : MethodName := ⟨RX1, "<init>", "()V"⟩
abbrev cX1_solve : ByteArray := prog_3_method_2_code
def yX1_solve : MethodName := ⟨RX1, "solve", "(LSilentRent$House;LSilentRent$Book;)V"⟩
abbrev cX1_firstRoom : ByteArray := prog_3_method_3_code
def yX1_firstRoom : MethodName := ⟨RX1, "firstRoom", "(I)I"⟩
abbrev cX1_someRooms : ByteArray := prog_3_method_4_code
def yX1_someRooms : MethodName := ⟨RX1, "someRooms", "(I)I"⟩
abbrev cX1_waysOn : ByteArray := prog_3_method_5_code
def yX1_waysOn : MethodName := ⟨RX1, "waysOn", "(II)I"⟩
abbrev cX1_reachFrom : ByteArray := prog_3_method_6_code
def yX1_reachFrom : MethodName := ⟨RX1, "reachFrom", "(II)V"⟩
abbrev cX1_goodRooms : ByteArray := prog_3_method_7_code
def yX1_goodRooms : MethodName := ⟨RX1, "goodRooms", "(II)I"⟩
abbrev cX1_firstFrom : ByteArray := prog_3_method_8_code
def yX1_firstFrom : MethodName := ⟨RX1, "firstFrom", "(II)I"⟩
def RX2 : String := "SilentRent$House"
def TX2 : u_T := fun k => match k with
  | 0 => ("SilentRent$House", "rooms", "I", false)
  | 1 => ("SilentRent$House", "tenants", "I", false)
  | 2 => ("SilentRent$House", "chairs", "I", false)
  | 3 => ("SilentRent$House", "price", "[I", true)
  | 4 => ("SilentRent$House", "sleep", "[I", true)
  | 5 => ("SilentRent$House", "must", "[I", true)
  | 6 => ("SilentRent$House", "wits", "[I", true)
  | 7 => ("SilentRent$House", "asks", "[I", true)
  | 8 => ("SilentRent$House", "hears", "[I", true)
  | _ => ("SilentRent$House", "lips", "[I", true)
def tyX2 : Nat → FieldType := fun k => match k with
  | 0 => .int
  | 1 => .int
  | 2 => .int
  | 3 => .array .int
  | 4 => .array .int
  | 5 => .array .int
  | 6 => .array .int
  | 7 => .array .int
  | 8 => .array .int
  | _ => .array .int
abbrev wsX20 : List Cond := u_ws RX2 TX2 10
theorem nmX2 : ∀ a, a < 10 → ∀ b, b < 10 → a ≠ b → (TX2 a).2.1 ≠ (TX2 b).2.1 := by decide +kernel
theorem tyX2_ok : ∀ k, k < 10 → parseFieldDescriptor (TX2 k).2.2.1 = some (tyX2 k) := by decide +kernel
abbrev cX2_init : ByteArray := prog_4_method_1_code
def yX2_init : MethodName := ⟨RX2, "<init>", "()V"⟩
abbrev cX2_hasRoom : ByteArray := prog_4_method_2_code
def yX2_hasRoom : MethodName := ⟨RX2, "hasRoom", "(I)Z"⟩
abbrev cX2_hasTenant : ByteArray := prog_4_method_3_code
def yX2_hasTenant : MethodName := ⟨RX2, "hasTenant", "(I)Z"⟩
abbrev cX2_hasChair : ByteArray := prog_4_method_4_code
def yX2_hasChair : MethodName := ⟨RX2, "hasChair", "(I)Z"⟩
abbrev cX2_everybody : ByteArray := prog_4_method_5_code
def yX2_everybody : MethodName := ⟨RX2, "everybody", "()I"⟩
abbrev cX2_freeHours : ByteArray := prog_4_method_6_code
def yX2_freeHours : MethodName := ⟨RX2, "freeHours", "(I)I"⟩
abbrev cX2_keepsSilent : ByteArray := prog_4_method_7_code
def yX2_keepsSilent : MethodName := ⟨RX2, "keepsSilent", "(I)I"⟩
abbrev cX2_meets : ByteArray := prog_4_method_8_code
def yX2_meets : MethodName := ⟨RX2, "meets", "(II)Z"⟩
abbrev cX2_whoMeets : ByteArray := prog_4_method_9_code
def yX2_whoMeets : MethodName := ⟨RX2, "whoMeets", "(I)I"⟩
abbrev cX2_roomsMetBy : ByteArray := prog_4_method_10_code
def yX2_roomsMetBy : MethodName := ⟨RX2, "roomsMetBy", "(I)I"⟩
abbrev cX2_hearers : ByteArray := prog_4_method_11_code
def yX2_hearers : MethodName := ⟨RX2, "hearers", "(I)I"⟩
abbrev cX2_seenFrom : ByteArray := prog_4_method_12_code
def yX2_seenFrom : MethodName := ⟨RX2, "seenFrom", "(I)I"⟩
def RX3 : String := "SilentRent$Housing"
def TX3 : u_T := fun k => match k with
  | 0 => ("SilentRent$Housing", "home", "[I", true)
  | _ => ("SilentRent$Housing", "best", "[[I", true)
def tyX3 : Nat → FieldType := fun k => match k with
  | 0 => .array .int
  | _ => .array (.array .int)
abbrev wsX30 : List Cond := u_ws RX3 TX3 2
theorem nmX3 : ∀ a, a < 2 → ∀ b, b < 2 → a ≠ b → (TX3 a).2.1 ≠ (TX3 b).2.1 := by decide +kernel
theorem tyX3_ok : ∀ k, k < 2 → parseFieldDescriptor (TX3 k).2.2.1 = some (tyX3 k) := by decide +kernel
abbrev cX3_init : ByteArray := prog_5_method_1_code
def yX3_init : MethodName := ⟨RX3, "<init>", "()V"⟩
abbrev cX3_solve : ByteArray := prog_5_method_2_code
def yX3_solve : MethodName := ⟨RX3, "solve", "(LSilentRent$House;)V"⟩
abbrev cX3_howMany : ByteArray := prog_5_method_3_code
def yX3_howMany : MethodName := ⟨RX3, "howMany", "(LSilentRent$House;)I"⟩
abbrev cX3_prices : ByteArray := prog_5_method_4_code
def yX3_prices : MethodName := ⟨RX3, "prices", "(LSilentRent$House;)I"⟩
abbrev cX3_mostFrom : ByteArray := prog_5_method_5_code
def yX3_mostFrom : MethodName := ⟨RX3, "mostFrom", "(LSilentRent$House;II)I"⟩
abbrev cX3_firstOfBest : ByteArray := prog_5_method_6_code
def yX3_firstOfBest : MethodName := ⟨RX3, "firstOfBest", "(LSilentRent$House;II)I"⟩
abbrev cX3_canTake : ByteArray := prog_5_method_7_code
def yX3_canTake : MethodName := ⟨RX3, "canTake", "(LSilentRent$House;III)Z"⟩
abbrev cX3_withRoom : ByteArray := prog_5_method_8_code
def yX3_withRoom : MethodName := ⟨RX3, "withRoom", "(LSilentRent$House;III)I"⟩
def RX4 : String := "SilentRent$Image"
def TX4 : u_T := fun k => match k with
  | 0 => ("SilentRent$Image", "kept", "Z", false)
  | 1 => ("SilentRent$Image", "now", "LSilentRent$Now;", true)
  | _ => ("SilentRent$Image", "past", "LSilentRent$Past;", true)
def tyX4 : Nat → FieldType := fun k => match k with
  | 0 => .boolean
  | 1 => .object "SilentRent$Now"
  | _ => .object "SilentRent$Past"
abbrev wsX40 : List Cond := u_ws RX4 TX4 3
theorem nmX4 : ∀ a, a < 3 → ∀ b, b < 3 → a ≠ b → (TX4 a).2.1 ≠ (TX4 b).2.1 := by decide +kernel
theorem tyX4_ok : ∀ k, k < 3 → parseFieldDescriptor (TX4 k).2.2.1 = some (tyX4 k) := by decide +kernel
abbrev cX4_init : ByteArray := prog_6_method_1_code
def yX4_init : MethodName := ⟨RX4, "<init>", "()V"⟩
def RX5 : String := "SilentRent$Now"
def TX5 : u_T := fun k => match k with
  | 0 => ("SilentRent$Now", "day", "I", false)
  | 1 => ("SilentRent$Now", "home", "[I", true)
  | 2 => ("SilentRent$Now", "talked", "[I", true)
  | 3 => ("SilentRent$Now", "pays", "[I", true)
  | _ => ("SilentRent$Now", "debt", "[I", true)
def tyX5 : Nat → FieldType := fun k => match k with
  | 0 => .int
  | 1 => .array .int
  | 2 => .array .int
  | 3 => .array .int
  | _ => .array .int
abbrev wsX50 : List Cond := u_ws RX5 TX5 5
theorem nmX5 : ∀ a, a < 5 → ∀ b, b < 5 → a ≠ b → (TX5 a).2.1 ≠ (TX5 b).2.1 := by decide +kernel
theorem tyX5_ok : ∀ k, k < 5 → parseFieldDescriptor (TX5 k).2.2.1 = some (tyX5 k) := by decide +kernel
abbrev cX5_init : ByteArray := prog_7_method_1_code
def yX5_init : MethodName := ⟨RX5, "<init>", "()V"⟩
abbrev cX5_begin : ByteArray := prog_7_method_2_code
def yX5_begin : MethodName := ⟨RX5, "begin", "()V"⟩
abbrev cX5_copyFrom : ByteArray := prog_7_method_3_code
def yX5_copyFrom : MethodName := ⟨RX5, "copyFrom", "(LSilentRent$Now;)V"⟩
abbrev cX5_dweller : ByteArray := prog_7_method_4_code
def yX5_dweller : MethodName := ⟨RX5, "dweller", "(I)I"⟩
abbrev cX5_allDebts : ByteArray := prog_7_method_5_code
def yX5_allDebts : MethodName := ⟨RX5, "allDebts", "()I"⟩
def RX6 : String := "SilentRent$Past"
def TX6 : u_T := fun k => match k with
  | 0 => ("SilentRent$Past", "known", "I", false)
  | _ => ("SilentRent$Past", "steps", "[LSilentRent$Now;", true)
def tyX6 : Nat → FieldType := fun k => match k with
  | 0 => .int
  | _ => .array (.object "SilentRent$Now")
abbrev wsX60 : List Cond := u_ws RX6 TX6 2
theorem nmX6 : ∀ a, a < 2 → ∀ b, b < 2 → a ≠ b → (TX6 a).2.1 ≠ (TX6 b).2.1 := by decide +kernel
theorem tyX6_ok : ∀ k, k < 2 → parseFieldDescriptor (TX6 k).2.2.1 = some (tyX6 k) := by decide +kernel
abbrev cX6_init : ByteArray := prog_8_method_1_code
def yX6_init : MethodName := ⟨RX6, "<init>", "()V"⟩
abbrev cX6_push : ByteArray := prog_8_method_2_code
def yX6_push : MethodName := ⟨RX6, "push", "(LSilentRent$Now;)V"⟩
abbrev cX6_pop : ByteArray := prog_8_method_3_code
def yX6_pop : MethodName := ⟨RX6, "pop", "(LSilentRent$Now;)V"⟩
abbrev cX6_copyFrom : ByteArray := prog_8_method_4_code
def yX6_copyFrom : MethodName := ⟨RX6, "copyFrom", "(LSilentRent$Past;)V"⟩
abbrev cX6_loseOldest : ByteArray := prog_8_method_5_code
def yX6_loseOldest : MethodName := ⟨RX6, "loseOldest", "()V"⟩
def RX7 : String := "SilentRent$Text"
def TX7 : u_T := fun k => match k with
  | 0 => ("SilentRent$Text", "bytes", "[I", true)
  | 1 => ("SilentRent$Text", "length", "I", false)
  | 2 => ("SilentRent$Text", "next", "I", false)
  | 3 => ("SilentRent$Text", "start", "I", false)
  | 4 => ("SilentRent$Text", "token", "I", false)
  | _ => ("SilentRent$Text", "value", "I", false)
def tyX7 : Nat → FieldType := fun k => match k with
  | 0 => .array .int
  | 1 => .int
  | 2 => .int
  | 3 => .int
  | 4 => .int
  | _ => .int
abbrev wsX70 : List Cond := u_ws RX7 TX7 6
theorem nmX7 : ∀ a, a < 6 → ∀ b, b < 6 → a ≠ b → (TX7 a).2.1 ≠ (TX7 b).2.1 := by decide +kernel
theorem tyX7_ok : ∀ k, k < 6 → parseFieldDescriptor (TX7 k).2.2.1 = some (tyX7 k) := by decide +kernel
abbrev cX7_init : ByteArray := prog_9_method_1_code
def yX7_init : MethodName := ⟨RX7, "<init>", "()V"⟩
abbrev cX7_readInto : ByteArray := prog_9_method_2_code
def yX7_readInto : MethodName := ⟨RX7, "readInto", "(LSilentRent$House;)I"⟩
abbrev cX7_readItem : ByteArray := prog_9_method_3_code
def yX7_readItem : MethodName := ⟨RX7, "readItem", "(LSilentRent$House;)Z"⟩
abbrev cX7_readRoom : ByteArray := prog_9_method_4_code
def yX7_readRoom : MethodName := ⟨RX7, "readRoom", "(LSilentRent$House;)Z"⟩
abbrev cX7_readTenant : ByteArray := prog_9_method_5_code
def yX7_readTenant : MethodName := ⟨RX7, "readTenant", "(LSilentRent$House;)Z"⟩
abbrev cX7_readHearing : ByteArray := prog_9_method_6_code
def yX7_readHearing : MethodName := ⟨RX7, "readHearing", "(LSilentRent$House;)Z"⟩
abbrev cX7_readChair : ByteArray := prog_9_method_7_code
def yX7_readChair : MethodName := ⟨RX7, "readChair", "(LSilentRent$House;)Z"⟩
abbrev cX7_number : ByteArray := prog_9_method_8_code
def yX7_number : MethodName := ⟨RX7, "number", "(II)Z"⟩
abbrev cX7_semicolon : ByteArray := prog_9_method_9_code
def yX7_semicolon : MethodName := ⟨RX7, "semicolon", "()Z"⟩
abbrev cX7_step : ByteArray := prog_9_method_10_code
def yX7_step : MethodName := ⟨RX7, "step", "()V"⟩
abbrev cX7_takeDigits : ByteArray := prog_9_method_11_code
def yX7_takeDigits : MethodName := ⟨RX7, "takeDigits", "()V"⟩
abbrev cX7_kindOf : ByteArray := prog_9_method_12_code
def yX7_kindOf : MethodName := ⟨RX7, "kindOf", "(I)I"⟩
def RX8 : String := "SilentRent"
def TX8 : u_T := fun k => match k with
  | 0 => ("SilentRent", "text", "LSilentRent$Text;", true)
  | 1 => ("SilentRent", "built", "LSilentRent$House;", false)
  | 2 => ("SilentRent", "draft", "LSilentRent$House;", false)
  | 3 => ("SilentRent", "now", "LSilentRent$Now;", true)
  | 4 => ("SilentRent", "past", "LSilentRent$Past;", true)
  | 5 => ("SilentRent", "images", "[LSilentRent$Image;", true)
  | 6 => ("SilentRent", "lines", "LSilentRent$Book;", true)
  | 7 => ("SilentRent", "housing", "LSilentRent$Housing;", true)
  | 8 => ("SilentRent", "fitting", "LSilentRent$Fitting;", true)
  | 9 => ("SilentRent", "groups", "[I", true)
  | _ => ("SilentRent", "asked", "J", false)
def tyX8 : Nat → FieldType := fun k => match k with
  | 0 => .object "SilentRent$Text"
  | 1 => .object "SilentRent$House"
  | 2 => .object "SilentRent$House"
  | 3 => .object "SilentRent$Now"
  | 4 => .object "SilentRent$Past"
  | 5 => .array (.object "SilentRent$Image")
  | 6 => .object "SilentRent$Book"
  | 7 => .object "SilentRent$Housing"
  | 8 => .object "SilentRent$Fitting"
  | 9 => .array .int
  | _ => .long
abbrev wsX80 : List Cond := u_ws RX8 TX8 11
theorem nmX8 : ∀ a, a < 11 → ∀ b, b < 11 → a ≠ b → (TX8 a).2.1 ≠ (TX8 b).2.1 := by decide +kernel
theorem tyX8_ok : ∀ k, k < 11 → parseFieldDescriptor (TX8 k).2.2.1 = some (tyX8 k) := by decide +kernel
abbrev cX8_init : ByteArray := prog_1_method_1_code
def yX8_init : MethodName := ⟨RX8, "<init>", "()V"⟩
abbrev cX8_type : ByteArray := prog_1_method_2_code
def yX8_type : MethodName := ⟨RX8, "type", "(I)I"⟩
abbrev cX8_clear : ByteArray := prog_1_method_3_code
def yX8_clear : MethodName := ⟨RX8, "clear", "()I"⟩
abbrev cX8_house : ByteArray := prog_1_method_4_code
def yX8_house : MethodName := ⟨RX8, "house", "()I"⟩
abbrev cX8_room : ByteArray := prog_1_method_5_code
def yX8_room : MethodName := ⟨RX8, "room", "(II)I"⟩
abbrev cX8_tenant : ByteArray := prog_1_method_6_code
def yX8_tenant : MethodName := ⟨RX8, "tenant", "(II)I"⟩
abbrev cX8_chair : ByteArray := prog_1_method_7_code
def yX8_chair : MethodName := ⟨RX8, "chair", "(I)I"⟩
abbrev cX8_moves : ByteArray := prog_1_method_8_code
def yX8_moves : MethodName := ⟨RX8, "moves", "(II)I"⟩
abbrev cX8_talks : ByteArray := prog_1_method_9_code
def yX8_talks : MethodName := ⟨RX8, "talks", "(III)I"⟩
abbrev cX8_evening : ByteArray := prog_1_method_10_code
def yX8_evening : MethodName := ⟨RX8, "evening", "()I"⟩
abbrev cX8_lends : ByteArray := prog_1_method_11_code
def yX8_lends : MethodName := ⟨RX8, "lends", "(III)I"⟩
abbrev cX8_undo : ByteArray := prog_1_method_12_code
def yX8_undo : MethodName := ⟨RX8, "undo", "()I"⟩
abbrev cX8_now : ByteArray := prog_1_method_13_code
def yX8_now : MethodName := ⟨RX8, "now", "(I)I"⟩
abbrev cX8_silentHours : ByteArray := prog_1_method_14_code
def yX8_silentHours : MethodName := ⟨RX8, "silentHours", "(I)I"⟩
abbrev cX8_dwellers : ByteArray := prog_1_method_15_code
def yX8_dwellers : MethodName := ⟨RX8, "dwellers", "()I"⟩
abbrev cX8_emptyRooms : ByteArray := prog_1_method_16_code
def yX8_emptyRooms : MethodName := ⟨RX8, "emptyRooms", "()I"⟩
abbrev cX8_lackingDwellers : ByteArray := prog_1_method_17_code
def yX8_lackingDwellers : MethodName := ⟨RX8, "lackingDwellers", "()I"⟩
abbrev cX8_housed : ByteArray := prog_1_method_18_code
def yX8_housed : MethodName := ⟨RX8, "housed", "(I)I"⟩
abbrev cX8_crowd : ByteArray := prog_1_method_19_code
def yX8_crowd : MethodName := ⟨RX8, "crowd", "()I"⟩
abbrev cX8_spare : ByteArray := prog_1_method_20_code
def yX8_spare : MethodName := ⟨RX8, "spare", "(I)I"⟩
abbrev cX8_rest : ByteArray := prog_1_method_21_code
def yX8_rest : MethodName := ⟨RX8, "rest", "(I)I"⟩
abbrev cX8_payments : ByteArray := prog_1_method_22_code
def yX8_payments : MethodName := ⟨RX8, "payments", "()I"⟩
abbrev cX8_settled : ByteArray := prog_1_method_23_code
def yX8_settled : MethodName := ⟨RX8, "settled", "(I)I"⟩
abbrev cX8_spareHours : ByteArray := prog_1_method_24_code
def yX8_spareHours : MethodName := ⟨RX8, "spareHours", "(I)I"⟩
abbrev cX8_hoursForSale : ByteArray := prog_1_method_25_code
def yX8_hoursForSale : MethodName := ⟨RX8, "hoursForSale", "(I)I"⟩
abbrev cX8_hoursBought : ByteArray := prog_1_method_26_code
def yX8_hoursBought : MethodName := ⟨RX8, "hoursBought", "(I)I"⟩
abbrev cX8_lackingShare : ByteArray := prog_1_method_27_code
def yX8_lackingShare : MethodName := ⟨RX8, "lackingShare", "(I)I"⟩
abbrev cX8_mostGroups : ByteArray := prog_1_method_28_code
def yX8_mostGroups : MethodName := ⟨RX8, "mostGroups", "(I)I"⟩
abbrev cX8_told : ByteArray := prog_1_method_29_code
def yX8_told : MethodName := ⟨RX8, "told", "(I)I"⟩
abbrev cX8_rounds : ByteArray := prog_1_method_30_code
def yX8_rounds : MethodName := ⟨RX8, "rounds", "(I)I"⟩
abbrev cX8_watch : ByteArray := prog_1_method_31_code
def yX8_watch : MethodName := ⟨RX8, "watch", "(I)I"⟩
abbrev cX8_odds : ByteArray := prog_1_method_32_code
def yX8_odds : MethodName := ⟨RX8, "odds", "(II)J"⟩
abbrev cX8_allKnow : ByteArray := prog_1_method_33_code
def yX8_allKnow : MethodName := ⟨RX8, "allKnow", "(II)Z"⟩
abbrev cX8_commonDivisor : ByteArray := prog_1_method_34_code
def yX8_commonDivisor : MethodName := ⟨RX8, "commonDivisor", "(JJ)J"⟩
abbrev cX8_book : ByteArray := prog_1_method_35_code
def yX8_book : MethodName := ⟨RX8, "book", "(II)I"⟩
abbrev cX8_burn : ByteArray := prog_1_method_36_code
def yX8_burn : MethodName := ⟨RX8, "burn", "()I"⟩
abbrev cX8_fits : ByteArray := prog_1_method_37_code
def yX8_fits : MethodName := ⟨RX8, "fits", "(I)I"⟩
abbrev cX8_may : ByteArray := prog_1_method_38_code
def yX8_may : MethodName := ⟨RX8, "may", "(I)I"⟩
abbrev cX8_mark : ByteArray := prog_1_method_39_code
def yX8_mark : MethodName := ⟨RX8, "mark", "(II)I"⟩
abbrev cX8_keep : ByteArray := prog_1_method_40_code
def yX8_keep : MethodName := ⟨RX8, "keep", "(I)I"⟩
abbrev cX8_back : ByteArray := prog_1_method_41_code
def yX8_back : MethodName := ⟨RX8, "back", "(I)I"⟩
abbrev cX8_count : ByteArray := prog_1_method_42_code
def yX8_count : MethodName := ⟨RX8, "count", "(I)I"⟩
abbrev cX8_trace : ByteArray := prog_1_method_43_code
def yX8_trace : MethodName := ⟨RX8, "trace", "()J"⟩
abbrev cX8_markTenant : ByteArray := prog_1_method_44_code
def yX8_markTenant : MethodName := ⟨RX8, "markTenant", "(I)I"⟩
abbrev cX8_markTalker : ByteArray := prog_1_method_45_code
def yX8_markTalker : MethodName := ⟨RX8, "markTalker", "(I)I"⟩
abbrev cX8_markMute : ByteArray := prog_1_method_46_code
def yX8_markMute : MethodName := ⟨RX8, "markMute", "(I)I"⟩
abbrev cX8_markWhistler : ByteArray := prog_1_method_47_code
def yX8_markWhistler : MethodName := ⟨RX8, "markWhistler", "(I)I"⟩
abbrev cX8_markHired : ByteArray := prog_1_method_48_code
def yX8_markHired : MethodName := ⟨RX8, "markHired", "(I)I"⟩
abbrev cX8_markLawyer : ByteArray := prog_1_method_49_code
def yX8_markLawyer : MethodName := ⟨RX8, "markLawyer", "(I)I"⟩
def RX9 : String := "SilentRentModel"
def TX9 : u_T := fun k => match k with
  | 0 => ("SilentRentModel", "text", "[I", true)
  | 1 => ("SilentRentModel", "size", "I", false)
  | 2 => ("SilentRentModel", "at", "I", false)
  | 3 => ("SilentRentModel", "begin", "I", false)
  | 4 => ("SilentRentModel", "token", "I", false)
  | 5 => ("SilentRentModel", "told", "I", false)
  | 6 => ("SilentRentModel", "read", "[I", true)
  | 7 => ("SilentRentModel", "house", "[I", true)
  | 8 => ("SilentRentModel", "now", "[I", true)
  | 9 => ("SilentRentModel", "undone", "[I", true)
  | 10 => ("SilentRentModel", "undos", "I", false)
  | 11 => ("SilentRentModel", "rooms", "[I", true)
  | 12 => ("SilentRentModel", "best", "I", false)
  | 13 => ("SilentRentModel", "bestPrices", "I", false)
  | 14 => ("SilentRentModel", "groups", "[I", true)
  | 15 => ("SilentRentModel", "lines", "I", false)
  | 16 => ("SilentRentModel", "who", "[I", true)
  | 17 => ("SilentRentModel", "lacked", "[I", true)
  | 18 => ("SilentRentModel", "ways", "I", false)
  | 19 => ("SilentRentModel", "some", "[I", true)
  | 20 => ("SilentRentModel", "trace", "J", false)
  | _ => ("SilentRentModel", "kept", "[I", true)
def tyX9 : Nat → FieldType := fun k => match k with
  | 0 => .array .int
  | 1 => .int
  | 2 => .int
  | 3 => .int
  | 4 => .int
  | 5 => .int
  | 6 => .array .int
  | 7 => .array .int
  | 8 => .array .int
  | 9 => .array .int
  | 10 => .int
  | 11 => .array .int
  | 12 => .int
  | 13 => .int
  | 14 => .array .int
  | 15 => .int
  | 16 => .array .int
  | 17 => .array .int
  | 18 => .int
  | 19 => .array .int
  | 20 => .long
  | _ => .array .int
abbrev wsX90 : List Cond := u_ws RX9 TX9 22
theorem nmX9 : ∀ a, a < 22 → ∀ b, b < 22 → a ≠ b → (TX9 a).2.1 ≠ (TX9 b).2.1 := by decide +kernel
theorem tyX9_ok : ∀ k, k < 22 → parseFieldDescriptor (TX9 k).2.2.1 = some (tyX9 k) := by decide +kernel
abbrev cX9_in : ByteArray := prog_11_method_2_code
def yX9_in : MethodName := ⟨RX9, "in", "(JJJ)Z"⟩
abbrev cX9_init : ByteArray := prog_11_method_3_code
def yX9_init : MethodName := ⟨RX9, "<init>", "()V"⟩
abbrev cX9_type : ByteArray := prog_11_method_4_code
def yX9_type : MethodName := ⟨RX9, "type", "(I)I"⟩
abbrev cX9_clear : ByteArray := prog_11_method_5_code
def yX9_clear : MethodName := ⟨RX9, "clear", "()I"⟩
abbrev cX9_isLetter : ByteArray := prog_11_method_6_code
def yX9_isLetter : MethodName := ⟨RX9, "isLetter", "(I)Z"⟩
abbrev cX9_isFigure : ByteArray := prog_11_method_7_code
def yX9_isFigure : MethodName := ⟨RX9, "isFigure", "(I)Z"⟩
abbrev cX9_readLetters : ByteArray := prog_11_method_8_code
def yX9_readLetters : MethodName := ⟨RX9, "readLetters", "()V"⟩
abbrev cX9_readNumber : ByteArray := prog_11_method_9_code
def yX9_readNumber : MethodName := ⟨RX9, "readNumber", "()V"⟩
abbrev cX9_reads : ByteArray := prog_11_method_10_code
def yX9_reads : MethodName := ⟨RX9, "reads", "()V"⟩
abbrev cX9_number : ByteArray := prog_11_method_11_code
def yX9_number : MethodName := ⟨RX9, "number", "(II)Z"⟩
abbrev cX9_ends : ByteArray := prog_11_method_12_code
def yX9_ends : MethodName := ⟨RX9, "ends", "()Z"⟩
abbrev cX9_readTenant : ByteArray := prog_11_method_13_code
def yX9_readTenant : MethodName := ⟨RX9, "readTenant", "()Z"⟩
abbrev cX9_readHears : ByteArray := prog_11_method_14_code
def yX9_readHears : MethodName := ⟨RX9, "readHears", "()Z"⟩
abbrev cX9_readItem : ByteArray := prog_11_method_15_code
def yX9_readItem : MethodName := ⟨RX9, "readItem", "()Z"⟩
abbrev cX9_house : ByteArray := prog_11_method_16_code
def yX9_house : MethodName := ⟨RX9, "house", "()I"⟩
abbrev cX9_anew : ByteArray := prog_11_method_17_code
def yX9_anew : MethodName := ⟨RX9, "anew", "()V"⟩
abbrev cX9_isRoom : ByteArray := prog_11_method_18_code
def yX9_isRoom : MethodName := ⟨RX9, "isRoom", "(I)Z"⟩
abbrev cX9_isTenant : ByteArray := prog_11_method_19_code
def yX9_isTenant : MethodName := ⟨RX9, "isTenant", "(I)Z"⟩
abbrev cX9_roomOf : ByteArray := prog_11_method_20_code
def yX9_roomOf : MethodName := ⟨RX9, "roomOf", "(I)I"⟩
abbrev cX9_debt : ByteArray := prog_11_method_21_code
def yX9_debt : MethodName := ⟨RX9, "debt", "(I)I"⟩
abbrev cX9_free : ByteArray := prog_11_method_22_code
def yX9_free : MethodName := ⟨RX9, "free", "(I)I"⟩
abbrev cX9_must : ByteArray := prog_11_method_23_code
def yX9_must : MethodName := ⟨RX9, "must", "(I)I"⟩
abbrev cX9_silent : ByteArray := prog_11_method_24_code
def yX9_silent : MethodName := ⟨RX9, "silent", "(I)I"⟩
abbrev cX9_more : ByteArray := prog_11_method_25_code
def yX9_more : MethodName := ⟨RX9, "more", "(II)I"⟩
abbrev cX9_livesIn : ByteArray := prog_11_method_26_code
def yX9_livesIn : MethodName := ⟨RX9, "livesIn", "(I)I"⟩
abbrev cX9_room : ByteArray := prog_11_method_27_code
def yX9_room : MethodName := ⟨RX9, "room", "(II)I"⟩
abbrev cX9_tenant : ByteArray := prog_11_method_28_code
def yX9_tenant : MethodName := ⟨RX9, "tenant", "(II)I"⟩
abbrev cX9_chair : ByteArray := prog_11_method_29_code
def yX9_chair : MethodName := ⟨RX9, "chair", "(I)I"⟩
abbrev cX9_lips : ByteArray := prog_11_method_30_code
def yX9_lips : MethodName := ⟨RX9, "lips", "(I)I"⟩
abbrev cX9_notes : ByteArray := prog_11_method_31_code
def yX9_notes : MethodName := ⟨RX9, "notes", "()V"⟩
abbrev cX9_moves : ByteArray := prog_11_method_32_code
def yX9_moves : MethodName := ⟨RX9, "moves", "(II)I"⟩
abbrev cX9_talks : ByteArray := prog_11_method_33_code
def yX9_talks : MethodName := ⟨RX9, "talks", "(III)I"⟩
abbrev cX9_debts : ByteArray := prog_11_method_34_code
def yX9_debts : MethodName := ⟨RX9, "debts", "()I"⟩
abbrev cX9_evening : ByteArray := prog_11_method_35_code
def yX9_evening : MethodName := ⟨RX9, "evening", "()I"⟩
abbrev cX9_lends : ByteArray := prog_11_method_36_code
def yX9_lends : MethodName := ⟨RX9, "lends", "(III)I"⟩
abbrev cX9_undo : ByteArray := prog_11_method_37_code
def yX9_undo : MethodName := ⟨RX9, "undo", "()I"⟩
abbrev cX9_now : ByteArray := prog_11_method_38_code
def yX9_now : MethodName := ⟨RX9, "now", "(I)I"⟩
abbrev cX9_power : ByteArray := prog_11_method_39_code
def yX9_power : MethodName := ⟨RX9, "power", "(II)I"⟩
abbrev cX9_finds : ByteArray := prog_11_method_40_code
def yX9_finds : MethodName := ⟨RX9, "finds", "()V"⟩
abbrev cX9_housed : ByteArray := prog_11_method_41_code
def yX9_housed : MethodName := ⟨RX9, "housed", "(I)I"⟩
abbrev cX9_many : ByteArray := prog_11_method_42_code
def yX9_many : MethodName := ⟨RX9, "many", "(I)I"⟩
abbrev cX9_crowd : ByteArray := prog_11_method_43_code
def yX9_crowd : MethodName := ⟨RX9, "crowd", "()I"⟩
abbrev cX9_spareOf : ByteArray := prog_11_method_44_code
def yX9_spareOf : MethodName := ⟨RX9, "spareOf", "(I)I"⟩
abbrev cX9_spare : ByteArray := prog_11_method_45_code
def yX9_spare : MethodName := ⟨RX9, "spare", "(I)I"⟩
abbrev cX9_rest : ByteArray := prog_11_method_46_code
def yX9_rest : MethodName := ⟨RX9, "rest", "(I)I"⟩
abbrev cX9_lacksOf : ByteArray := prog_11_method_47_code
def yX9_lacksOf : MethodName := ⟨RX9, "lacksOf", "(I)I"⟩
abbrev cX9_settled : ByteArray := prog_11_method_48_code
def yX9_settled : MethodName := ⟨RX9, "settled", "(I)I"⟩
abbrev cX9_payments : ByteArray := prog_11_method_49_code
def yX9_payments : MethodName := ⟨RX9, "payments", "()I"⟩
abbrev cX9_hear : ByteArray := prog_11_method_50_code
def yX9_hear : MethodName := ⟨RX9, "hear", "(I)I"⟩
abbrev cX9_know : ByteArray := prog_11_method_51_code
def yX9_know : MethodName := ⟨RX9, "know", "(II)I"⟩
abbrev cX9_told : ByteArray := prog_11_method_52_code
def yX9_told : MethodName := ⟨RX9, "told", "(I)I"⟩
abbrev cX9_rounds : ByteArray := prog_11_method_53_code
def yX9_rounds : MethodName := ⟨RX9, "rounds", "(I)I"⟩
abbrev cX9_watch : ByteArray := prog_11_method_54_code
def yX9_watch : MethodName := ⟨RX9, "watch", "(I)I"⟩
abbrev cX9_odds : ByteArray := prog_11_method_55_code
def yX9_odds : MethodName := ⟨RX9, "odds", "(II)J"⟩
abbrev cX9_book : ByteArray := prog_11_method_56_code
def yX9_book : MethodName := ⟨RX9, "book", "(II)I"⟩
abbrev cX9_burn : ByteArray := prog_11_method_57_code
def yX9_burn : MethodName := ⟨RX9, "burn", "()I"⟩
abbrev cX9_isSo : ByteArray := prog_11_method_58_code
def yX9_isSo : MethodName := ⟨RX9, "isSo", "(II)Z"⟩
abbrev cX9_fit : ByteArray := prog_11_method_59_code
def yX9_fit : MethodName := ⟨RX9, "fit", "()V"⟩
abbrev cX9_fits : ByteArray := prog_11_method_60_code
def yX9_fits : MethodName := ⟨RX9, "fits", "(I)I"⟩
abbrev cX9_may : ByteArray := prog_11_method_61_code
def yX9_may : MethodName := ⟨RX9, "may", "(I)I"⟩
abbrev cX9_mark : ByteArray := prog_11_method_62_code
def yX9_mark : MethodName := ⟨RX9, "mark", "(II)I"⟩
abbrev cX9_trace : ByteArray := prog_11_method_63_code
def yX9_trace : MethodName := ⟨RX9, "trace", "()J"⟩
abbrev cX9_keep : ByteArray := prog_11_method_64_code
def yX9_keep : MethodName := ⟨RX9, "keep", "(I)I"⟩
abbrev cX9_back : ByteArray := prog_11_method_65_code
def yX9_back : MethodName := ⟨RX9, "back", "(I)I"⟩
abbrev cX9_count : ByteArray := prog_11_method_66_code
def yX9_count : MethodName := ⟨RX9, "count", "(I)I"⟩
def RJ6 : String := "java/lang/Integer"
def TJ6 : u_T := fun k => match k with
  | _ => ("", "", "", false)
def tyJ6 : Nat → FieldType := fun k => match k with
  | _ => .int
abbrev wsJ60 : List Cond := u_ws RJ6 TJ6 0
theorem nmJ6 : ∀ a, a < 0 → ∀ b, b < 0 → a ≠ b → (TJ6 a).2.1 ≠ (TJ6 b).2.1 := by decide +kernel
theorem tyJ6_ok : ∀ k, k < 0 → parseFieldDescriptor (TJ6 k).2.2.1 = some (tyJ6 k) := by decide +kernel
abbrev cJ6_bitCount_0f7a4 : ByteArray := prog_12_method_49_code
def yJ6_bitCount_0f7a4 : MethodName := ⟨RJ6, "bitCount", "(I)I"⟩
def RJ9 : String := "java/lang/Math"
def TJ9 : u_T := fun k => match k with
  | _ => ("", "", "", false)
def tyJ9 : Nat → FieldType := fun k => match k with
  | _ => .int
abbrev wsJ90 : List Cond := u_ws RJ9 TJ9 0
theorem nmJ9 : ∀ a, a < 0 → ∀ b, b < 0 → a ≠ b → (TJ9 a).2.1 ≠ (TJ9 b).2.1 := by decide +kernel
theorem tyJ9_ok : ∀ k, k < 0 → parseFieldDescriptor (TJ9 k).2.2.1 = some (tyJ9 k) := by decide +kernel
abbrev cJ9_max_7cf53 : ByteArray := prog_13_method_65_code
def yJ9_max_7cf53 : MethodName := ⟨RJ9, "max", "(II)I"⟩
abbrev cJ9_min_7cf53 : ByteArray := prog_13_method_69_code
def yJ9_min_7cf53 : MethodName := ⟨RJ9, "min", "(II)I"⟩
def RJ10 : String := "java/lang/System"
def TJ10 : u_T := fun k => match k with
  | _ => ("", "", "", false)
def tyJ10 : Nat → FieldType := fun k => match k with
  | _ => .int
abbrev wsJ100 : List Cond := u_ws RJ10 TJ10 0
theorem nmJ10 : ∀ a, a < 0 → ∀ b, b < 0 → a ≠ b → (TJ10 a).2.1 ≠ (TJ10 b).2.1 := by decide +kernel
theorem tyJ10_ok : ∀ k, k < 0 → parseFieldDescriptor (TJ10 k).2.2.1 = some (tyJ10 k) := by decide +kernel
def RJ7 : String := "java/util/Arrays"
def TJ7 : u_T := fun k => match k with
  | _ => ("", "", "", false)
def tyJ7 : Nat → FieldType := fun k => match k with
  | _ => .int
abbrev wsJ70 : List Cond := u_ws RJ7 TJ7 0
theorem nmJ7 : ∀ a, a < 0 → ∀ b, b < 0 → a ≠ b → (TJ7 a).2.1 ≠ (TJ7 b).2.1 := by decide +kernel
theorem tyJ7_ok : ∀ k, k < 0 → parseFieldDescriptor (TJ7 k).2.2.1 = some (tyJ7 k) := by decide +kernel
abbrev cJ7_fill_53178 : ByteArray := prog_15_method_103_code
def yJ7_fill_53178 : MethodName := ⟨RJ7, "fill", "([II)V"⟩
def RL : String := "SilentRentLaw"
abbrev cL_law : ByteArray := code
def yL_law : MethodName := ⟨RL, "law", "([I)Z"⟩
def wsX0_init : List Cond := .code yX0_init cX0_init 1 none :: ([.methodLink RX0 3 objectInit, .instanceMethod objectInit, .code objectInit ⟨#[0xb1]⟩ 1 none, .arrayClass .int, .fieldLink RX0 9 "SilentRent$Book" "who" "[I", .fieldLink RX0 15 "SilentRent$Book" "lacks" "[I"] ++ wsX00)
def wsX2_freeHours : List Cond := .code yX2_freeHours cX2_freeHours 2 (some .int) :: ([.fieldLink RX2 15 "SilentRent$House" "sleep" "[I"] ++ wsX20)
def wsX2_keepsSilent : List Cond := .code yX2_keepsSilent cX2_keepsSilent 2 (some .int) :: ([.fieldLink RX2 18 "SilentRent$House" "must" "[I", .methodLink RX2 43 yX2_freeHours, .instanceMethod yX2_freeHours, .selects RX2 yX2_freeHours yX2_freeHours, .initialized RX2, .code yX2_freeHours cX2_freeHours 2 (some .int), .fieldLink RX2 15 "SilentRent$House" "sleep" "[I"] ++ wsX20)
def wsX0_agrees : List Cond := .code yX0_agrees cX0_agrees 4 (some .boolean) :: ([.fieldLink RX0 41 "SilentRent$Book" "length" "I", .fieldLink RX0 9 "SilentRent$Book" "who" "[I", .fieldLink RX0 15 "SilentRent$Book" "lacks" "[I"] ++ wsX00)
def wsX0_roomsThatAgree_r1 : List Cond := [Cond.fieldLink RX0 18 "SilentRent$House" "rooms" "I", Cond.fieldLink RX0 24 "SilentRent$House" "price" "[I", Cond.methodLink RX0 31 Lib.Math.max.name, Cond.static Lib.Math.max.name, Cond.initialized "java/lang/Math", Cond.code Lib.Math.max.name Lib.Math.max.code 2 (some .int), Cond.methodLink RX0 27 yX2_keepsSilent, Cond.instanceMethod yX2_keepsSilent, Cond.selects RX2 yX2_keepsSilent yX2_keepsSilent, Cond.initialized RX2, Cond.code yX2_keepsSilent cX2_keepsSilent 2 (some .int), Cond.fieldLink RX2 18 "SilentRent$House" "must" "[I", Cond.methodLink RX2 43 yX2_freeHours, Cond.instanceMethod yX2_freeHours, Cond.selects RX2 yX2_freeHours yX2_freeHours, Cond.code yX2_freeHours cX2_freeHours 2 (some .int), Cond.fieldLink RX2 15 "SilentRent$House" "sleep" "[I", Cond.methodLink RX0 37 yX0_agrees, Cond.instanceMethod yX0_agrees, Cond.selects RX0 yX0_agrees yX0_agrees, Cond.initialized RX0, Cond.code yX0_agrees cX0_agrees 4 (some .boolean), Cond.fieldLink RX0 41 "SilentRent$Book" "length" "I", Cond.fieldLink RX0 9 "SilentRent$Book" "who" "[I"]
def wsX0_roomsThatAgree_r2 : List Cond := [Cond.fieldLink RX0 15 "SilentRent$Book" "lacks" "[I"]
def wsX0_roomsThatAgree : List Cond := .code yX0_roomsThatAgree cX0_roomsThatAgree 5 (some .int) :: ((wsX0_roomsThatAgree_r1 ++ wsX0_roomsThatAgree_r2) ++ wsX20 ++ wsX00)
def wsX1_init : List Cond := .code yX1_init cX1_init 1 none :: ([.methodLink RX1 3 objectInit, .instanceMethod objectInit, .code objectInit ⟨#[0xb1]⟩ 1 none, .arrayClass .int, .fieldLink RX1 9 "SilentRent$Fitting" "ways" "[I", .arrayClass .boolean, .fieldLink RX1 15 "SilentRent$Fitting" "reached" "[Z", .fieldLink RX1 19 "SilentRent$Fitting" "open" "[I"] ++ wsX10)
def wsJ6_bitCount_0f7a4 : List Cond := .code yJ6_bitCount_0f7a4 cJ6_bitCount_0f7a4 1 (some .int) :: ([.constant RJ6 265 (1431655765), .constant RJ6 266 (858993459), .constant RJ6 267 (252645135)])
def wsX1_waysOn : List Cond := .code yX1_waysOn cX1_waysOn 5 (some .int) :: ([.fieldLink RX1 28 "SilentRent$Fitting" "rooms" "I", .fieldLink RX1 19 "SilentRent$Fitting" "open" "[I", .fieldLink RX1 9 "SilentRent$Fitting" "ways" "[I"] ++ wsX10)
def wsX1_reachFrom : List Cond := .code yX1_reachFrom cX1_reachFrom 4 none :: ([.fieldLink RX1 28 "SilentRent$Fitting" "rooms" "I", .fieldLink RX1 19 "SilentRent$Fitting" "open" "[I", .fieldLink RX1 15 "SilentRent$Fitting" "reached" "[Z"] ++ wsX10)
def wsX1_solve_r1 : List Cond := [Cond.fieldLink RX1 22 "SilentRent$House" "rooms" "I", Cond.fieldLink RX1 28 "SilentRent$Fitting" "rooms" "I", Cond.fieldLink RX1 29 "SilentRent$House" "tenants" "I", Cond.fieldLink RX1 19 "SilentRent$Fitting" "open" "[I", Cond.fieldLink RX1 9 "SilentRent$Fitting" "ways" "[I", Cond.fieldLink RX1 15 "SilentRent$Fitting" "reached" "[Z", Cond.methodLink RX1 32 yX0_roomsThatAgree, Cond.instanceMethod yX0_roomsThatAgree, Cond.selects RX0 yX0_roomsThatAgree yX0_roomsThatAgree, Cond.initialized RX0, Cond.code yX0_roomsThatAgree cX0_roomsThatAgree 5 (some .int), Cond.fieldLink RX0 18 "SilentRent$House" "rooms" "I", Cond.fieldLink RX0 24 "SilentRent$House" "price" "[I", Cond.methodLink RX0 31 Lib.Math.max.name, Cond.static Lib.Math.max.name, Cond.initialized "java/lang/Math", Cond.code Lib.Math.max.name Lib.Math.max.code 2 (some .int), Cond.methodLink RX0 27 yX2_keepsSilent, Cond.instanceMethod yX2_keepsSilent, Cond.selects RX2 yX2_keepsSilent yX2_keepsSilent, Cond.initialized RX2, Cond.code yX2_keepsSilent cX2_keepsSilent 2 (some .int), Cond.fieldLink RX2 18 "SilentRent$House" "must" "[I", Cond.methodLink RX2 43 yX2_freeHours]
def wsX1_solve_r2 : List Cond := [Cond.instanceMethod yX2_freeHours, Cond.selects RX2 yX2_freeHours yX2_freeHours, Cond.code yX2_freeHours cX2_freeHours 2 (some .int), Cond.fieldLink RX2 15 "SilentRent$House" "sleep" "[I", Cond.methodLink RX0 37 yX0_agrees, Cond.instanceMethod yX0_agrees, Cond.selects RX0 yX0_agrees yX0_agrees, Cond.code yX0_agrees cX0_agrees 4 (some .boolean), Cond.fieldLink RX0 41 "SilentRent$Book" "length" "I", Cond.fieldLink RX0 9 "SilentRent$Book" "who" "[I", Cond.fieldLink RX0 15 "SilentRent$Book" "lacks" "[I", Cond.methodLink RX1 38 yJ6_bitCount_0f7a4, Cond.static yJ6_bitCount_0f7a4, Cond.initialized RJ6, Cond.code yJ6_bitCount_0f7a4 cJ6_bitCount_0f7a4 1 (some .int), Cond.constant RJ6 265 (1431655765), Cond.constant RJ6 266 (858993459), Cond.constant RJ6 267 (252645135), Cond.methodLink RX1 44 yX1_waysOn, Cond.instanceMethod yX1_waysOn, Cond.selects RX1 yX1_waysOn yX1_waysOn, Cond.initialized RX1, Cond.code yX1_waysOn cX1_waysOn 5 (some .int), Cond.methodLink RX1 48 yX1_reachFrom]
def wsX1_solve_r3 : List Cond := [Cond.instanceMethod yX1_reachFrom, Cond.selects RX1 yX1_reachFrom yX1_reachFrom, Cond.code yX1_reachFrom cX1_reachFrom 4 none]
def wsX1_solve : List Cond := .code yX1_solve cX1_solve 5 none :: ((wsX1_solve_r1 ++ (wsX1_solve_r2 ++ wsX1_solve_r3)) ++ wsX20 ++ wsX10 ++ wsX00)
def wsX1_goodRooms : List Cond := .code yX1_goodRooms cX1_goodRooms 5 (some .int) :: ([.fieldLink RX1 28 "SilentRent$Fitting" "rooms" "I", .fieldLink RX1 19 "SilentRent$Fitting" "open" "[I", .fieldLink RX1 9 "SilentRent$Fitting" "ways" "[I"] ++ wsX10)
def wsX1_firstFrom : List Cond := .code yX1_firstFrom cX1_firstFrom 5 (some .int) :: ([.fieldLink RX1 28 "SilentRent$Fitting" "rooms" "I", .methodLink RX1 55 yX1_goodRooms, .instanceMethod yX1_goodRooms, .selects RX1 yX1_goodRooms yX1_goodRooms, .initialized RX1, .code yX1_goodRooms cX1_goodRooms 5 (some .int), .fieldLink RX1 19 "SilentRent$Fitting" "open" "[I", .fieldLink RX1 9 "SilentRent$Fitting" "ways" "[I"] ++ wsX10)
def wsX1_firstRoom : List Cond := .code yX1_firstRoom cX1_firstRoom 5 (some .int) :: ([.methodLink RX1 52 yX1_firstFrom, .instanceMethod yX1_firstFrom, .selects RX1 yX1_firstFrom yX1_firstFrom, .initialized RX1, .code yX1_firstFrom cX1_firstFrom 5 (some .int), .fieldLink RX1 28 "SilentRent$Fitting" "rooms" "I", .methodLink RX1 55 yX1_goodRooms, .instanceMethod yX1_goodRooms, .selects RX1 yX1_goodRooms yX1_goodRooms, .code yX1_goodRooms cX1_goodRooms 5 (some .int), .fieldLink RX1 19 "SilentRent$Fitting" "open" "[I", .fieldLink RX1 9 "SilentRent$Fitting" "ways" "[I"] ++ wsX10)
def wsX1_someRooms : List Cond := .code yX1_someRooms cX1_someRooms 4 (some .int) :: ([.fieldLink RX1 28 "SilentRent$Fitting" "rooms" "I", .fieldLink RX1 15 "SilentRent$Fitting" "reached" "[Z", .methodLink RX1 38 yJ6_bitCount_0f7a4, .static yJ6_bitCount_0f7a4, .initialized RJ6, .code yJ6_bitCount_0f7a4 cJ6_bitCount_0f7a4 1 (some .int), .constant RJ6 265 (1431655765), .constant RJ6 266 (858993459), .constant RJ6 267 (252645135), .methodLink RX1 55 yX1_goodRooms, .instanceMethod yX1_goodRooms, .selects RX1 yX1_goodRooms yX1_goodRooms, .initialized RX1, .code yX1_goodRooms cX1_goodRooms 5 (some .int), .fieldLink RX1 19 "SilentRent$Fitting" "open" "[I", .fieldLink RX1 9 "SilentRent$Fitting" "ways" "[I"] ++ wsX10)
def wsX2_init : List Cond := .code yX2_init cX2_init 1 none :: ([.methodLink RX2 3 objectInit, .instanceMethod objectInit, .code objectInit ⟨#[0xb1]⟩ 1 none, .arrayClass .int, .fieldLink RX2 9 "SilentRent$House" "price" "[I", .fieldLink RX2 15 "SilentRent$House" "sleep" "[I", .fieldLink RX2 18 "SilentRent$House" "must" "[I", .fieldLink RX2 21 "SilentRent$House" "wits" "[I", .fieldLink RX2 24 "SilentRent$House" "asks" "[I", .fieldLink RX2 27 "SilentRent$House" "hears" "[I", .fieldLink RX2 30 "SilentRent$House" "lips" "[I"] ++ wsX20)
def wsX2_hasRoom : List Cond := .code yX2_hasRoom cX2_hasRoom 2 (some .boolean) :: ([.fieldLink RX2 33 "SilentRent$House" "rooms" "I"] ++ wsX20)
def wsX2_hasTenant : List Cond := .code yX2_hasTenant cX2_hasTenant 2 (some .boolean) :: ([.fieldLink RX2 37 "SilentRent$House" "tenants" "I"] ++ wsX20)
def wsX2_hasChair : List Cond := .code yX2_hasChair cX2_hasChair 2 (some .boolean) :: ([.fieldLink RX2 40 "SilentRent$House" "chairs" "I"] ++ wsX20)
def wsX2_everybody : List Cond := .code yX2_everybody cX2_everybody 1 (some .int) :: ([.fieldLink RX2 37 "SilentRent$House" "tenants" "I"] ++ wsX20)
def wsX2_meets : List Cond := .code yX2_meets cX2_meets 3 (some .boolean) :: ([.fieldLink RX2 9 "SilentRent$House" "price" "[I", .methodLink RX2 47 yX2_keepsSilent, .instanceMethod yX2_keepsSilent, .selects RX2 yX2_keepsSilent yX2_keepsSilent, .initialized RX2, .code yX2_keepsSilent cX2_keepsSilent 2 (some .int), .fieldLink RX2 18 "SilentRent$House" "must" "[I", .methodLink RX2 43 yX2_freeHours, .instanceMethod yX2_freeHours, .selects RX2 yX2_freeHours yX2_freeHours, .code yX2_freeHours cX2_freeHours 2 (some .int), .fieldLink RX2 15 "SilentRent$House" "sleep" "[I"] ++ wsX20)
def wsX2_whoMeets : List Cond := .code yX2_whoMeets cX2_whoMeets 4 (some .int) :: ([.fieldLink RX2 37 "SilentRent$House" "tenants" "I", .methodLink RX2 50 yX2_meets, .instanceMethod yX2_meets, .selects RX2 yX2_meets yX2_meets, .initialized RX2, .code yX2_meets cX2_meets 3 (some .boolean), .fieldLink RX2 9 "SilentRent$House" "price" "[I", .methodLink RX2 47 yX2_keepsSilent, .instanceMethod yX2_keepsSilent, .selects RX2 yX2_keepsSilent yX2_keepsSilent, .code yX2_keepsSilent cX2_keepsSilent 2 (some .int), .fieldLink RX2 18 "SilentRent$House" "must" "[I", .methodLink RX2 43 yX2_freeHours, .instanceMethod yX2_freeHours, .selects RX2 yX2_freeHours yX2_freeHours, .code yX2_freeHours cX2_freeHours 2 (some .int), .fieldLink RX2 15 "SilentRent$House" "sleep" "[I"] ++ wsX20)
def wsX2_roomsMetBy : List Cond := .code yX2_roomsMetBy cX2_roomsMetBy 4 (some .int) :: ([.fieldLink RX2 33 "SilentRent$House" "rooms" "I", .methodLink RX2 54 yX2_whoMeets, .instanceMethod yX2_whoMeets, .selects RX2 yX2_whoMeets yX2_whoMeets, .initialized RX2, .code yX2_whoMeets cX2_whoMeets 4 (some .int), .fieldLink RX2 37 "SilentRent$House" "tenants" "I", .methodLink RX2 50 yX2_meets, .instanceMethod yX2_meets, .selects RX2 yX2_meets yX2_meets, .code yX2_meets cX2_meets 3 (some .boolean), .fieldLink RX2 9 "SilentRent$House" "price" "[I", .methodLink RX2 47 yX2_keepsSilent, .instanceMethod yX2_keepsSilent, .selects RX2 yX2_keepsSilent yX2_keepsSilent, .code yX2_keepsSilent cX2_keepsSilent 2 (some .int), .fieldLink RX2 18 "SilentRent$House" "must" "[I", .methodLink RX2 43 yX2_freeHours, .instanceMethod yX2_freeHours, .selects RX2 yX2_freeHours yX2_freeHours, .code yX2_freeHours cX2_freeHours 2 (some .int), .fieldLink RX2 15 "SilentRent$House" "sleep" "[I"] ++ wsX20)
def wsX2_hearers : List Cond := .code yX2_hearers cX2_hearers 4 (some .int) :: ([.fieldLink RX2 37 "SilentRent$House" "tenants" "I", .fieldLink RX2 27 "SilentRent$House" "hears" "[I"] ++ wsX20)
def wsX2_seenFrom : List Cond := .code yX2_seenFrom cX2_seenFrom 4 (some .int) :: ([.fieldLink RX2 40 "SilentRent$House" "chairs" "I", .fieldLink RX2 30 "SilentRent$House" "lips" "[I"] ++ wsX20)
def wsX3_init : List Cond := .code yX3_init cX3_init 1 none :: ([.methodLink RX3 3 objectInit, .instanceMethod objectInit, .code objectInit ⟨#[0xb1]⟩ 1 none, .arrayClass .int, .fieldLink RX3 9 "SilentRent$Housing" "home" "[I", .classLink RX3 15 "[[I", .fieldLink RX3 17 "SilentRent$Housing" "best" "[[I"] ++ wsX30)
def wsJ7_fill_53178 : List Cond := .code yJ7_fill_53178 cJ7_fill_53178 4 none :: ([])
def wsX3_canTake : List Cond := .code yX3_canTake cX3_canTake 5 (some .boolean) :: ([.methodLink RX3 63 yX2_meets, .instanceMethod yX2_meets, .selects RX2 yX2_meets yX2_meets, .initialized RX2, .code yX2_meets cX2_meets 3 (some .boolean), .fieldLink RX2 9 "SilentRent$House" "price" "[I", .methodLink RX2 47 yX2_keepsSilent, .instanceMethod yX2_keepsSilent, .selects RX2 yX2_keepsSilent yX2_keepsSilent, .code yX2_keepsSilent cX2_keepsSilent 2 (some .int), .fieldLink RX2 18 "SilentRent$House" "must" "[I", .methodLink RX2 43 yX2_freeHours, .instanceMethod yX2_freeHours, .selects RX2 yX2_freeHours yX2_freeHours, .code yX2_freeHours cX2_freeHours 2 (some .int), .fieldLink RX2 15 "SilentRent$House" "sleep" "[I"] ++ wsX20)
def wsX3_withRoom : List Cond := .code yX3_withRoom cX3_withRoom 5 (some .int) :: ([.fieldLink RX3 17 "SilentRent$Housing" "best" "[[I", .fieldLink RX3 46 "SilentRent$House" "price" "[I"] ++ wsX30 ++ wsX20)
def wsX3_mostFrom_r1 : List Cond := [Cond.fieldLink RX3 17 "SilentRent$Housing" "best" "[[I", Cond.fieldLink RX3 32 "SilentRent$House" "rooms" "I", Cond.methodLink RX3 57 Lib.Math.max.name, Cond.static Lib.Math.max.name, Cond.initialized "java/lang/Math", Cond.code Lib.Math.max.name Lib.Math.max.code 2 (some .int), Cond.methodLink RX3 49 yX3_canTake, Cond.instanceMethod yX3_canTake, Cond.selects RX3 yX3_canTake yX3_canTake, Cond.initialized RX3, Cond.code yX3_canTake cX3_canTake 5 (some .boolean), Cond.methodLink RX3 63 yX2_meets, Cond.instanceMethod yX2_meets, Cond.selects RX2 yX2_meets yX2_meets, Cond.initialized RX2, Cond.code yX2_meets cX2_meets 3 (some .boolean), Cond.fieldLink RX2 9 "SilentRent$House" "price" "[I", Cond.methodLink RX2 47 yX2_keepsSilent, Cond.instanceMethod yX2_keepsSilent, Cond.selects RX2 yX2_keepsSilent yX2_keepsSilent, Cond.code yX2_keepsSilent cX2_keepsSilent 2 (some .int), Cond.fieldLink RX2 18 "SilentRent$House" "must" "[I", Cond.methodLink RX2 43 yX2_freeHours, Cond.instanceMethod yX2_freeHours]
def wsX3_mostFrom_r2 : List Cond := [Cond.selects RX2 yX2_freeHours yX2_freeHours, Cond.code yX2_freeHours cX2_freeHours 2 (some .int), Cond.fieldLink RX2 15 "SilentRent$House" "sleep" "[I", Cond.methodLink RX3 53 yX3_withRoom, Cond.instanceMethod yX3_withRoom, Cond.selects RX3 yX3_withRoom yX3_withRoom, Cond.code yX3_withRoom cX3_withRoom 5 (some .int), Cond.fieldLink RX3 46 "SilentRent$House" "price" "[I"]
def wsX3_mostFrom : List Cond := .code yX3_mostFrom cX3_mostFrom 6 (some .int) :: ((wsX3_mostFrom_r1 ++ wsX3_mostFrom_r2) ++ wsX30 ++ wsX20)
def wsX3_firstOfBest_r1 : List Cond := [Cond.fieldLink RX3 32 "SilentRent$House" "rooms" "I", Cond.fieldLink RX3 17 "SilentRent$Housing" "best" "[[I", Cond.methodLink RX3 49 yX3_canTake, Cond.instanceMethod yX3_canTake, Cond.selects RX3 yX3_canTake yX3_canTake, Cond.initialized RX3, Cond.code yX3_canTake cX3_canTake 5 (some .boolean), Cond.methodLink RX3 63 yX2_meets, Cond.instanceMethod yX2_meets, Cond.selects RX2 yX2_meets yX2_meets, Cond.initialized RX2, Cond.code yX2_meets cX2_meets 3 (some .boolean), Cond.fieldLink RX2 9 "SilentRent$House" "price" "[I", Cond.methodLink RX2 47 yX2_keepsSilent, Cond.instanceMethod yX2_keepsSilent, Cond.selects RX2 yX2_keepsSilent yX2_keepsSilent, Cond.code yX2_keepsSilent cX2_keepsSilent 2 (some .int), Cond.fieldLink RX2 18 "SilentRent$House" "must" "[I", Cond.methodLink RX2 43 yX2_freeHours, Cond.instanceMethod yX2_freeHours, Cond.selects RX2 yX2_freeHours yX2_freeHours, Cond.code yX2_freeHours cX2_freeHours 2 (some .int), Cond.fieldLink RX2 15 "SilentRent$House" "sleep" "[I", Cond.methodLink RX3 53 yX3_withRoom]
def wsX3_firstOfBest_r2 : List Cond := [Cond.instanceMethod yX3_withRoom, Cond.selects RX3 yX3_withRoom yX3_withRoom, Cond.code yX3_withRoom cX3_withRoom 5 (some .int), Cond.fieldLink RX3 46 "SilentRent$House" "price" "[I"]
def wsX3_firstOfBest : List Cond := .code yX3_firstOfBest cX3_firstOfBest 5 (some .int) :: ((wsX3_firstOfBest_r1 ++ wsX3_firstOfBest_r2) ++ wsX20 ++ wsX30)
def wsX3_solve_r1 : List Cond := [Cond.fieldLink RX3 17 "SilentRent$Housing" "best" "[[I", Cond.fieldLink RX3 20 "SilentRent$House" "tenants" "I", Cond.fieldLink RX3 32 "SilentRent$House" "rooms" "I", Cond.fieldLink RX3 9 "SilentRent$Housing" "home" "[I", Cond.methodLink RX3 26 yJ7_fill_53178, Cond.static yJ7_fill_53178, Cond.initialized RJ7, Cond.code yJ7_fill_53178 cJ7_fill_53178 4 none, Cond.methodLink RX3 35 yX3_mostFrom, Cond.instanceMethod yX3_mostFrom, Cond.selects RX3 yX3_mostFrom yX3_mostFrom, Cond.initialized RX3, Cond.code yX3_mostFrom cX3_mostFrom 6 (some .int), Cond.methodLink RX3 57 Lib.Math.max.name, Cond.static Lib.Math.max.name, Cond.initialized "java/lang/Math", Cond.code Lib.Math.max.name Lib.Math.max.code 2 (some .int), Cond.methodLink RX3 49 yX3_canTake, Cond.instanceMethod yX3_canTake, Cond.selects RX3 yX3_canTake yX3_canTake, Cond.code yX3_canTake cX3_canTake 5 (some .boolean), Cond.methodLink RX3 63 yX2_meets, Cond.instanceMethod yX2_meets, Cond.selects RX2 yX2_meets yX2_meets]
def wsX3_solve_r2 : List Cond := [Cond.initialized RX2, Cond.code yX2_meets cX2_meets 3 (some .boolean), Cond.fieldLink RX2 9 "SilentRent$House" "price" "[I", Cond.methodLink RX2 47 yX2_keepsSilent, Cond.instanceMethod yX2_keepsSilent, Cond.selects RX2 yX2_keepsSilent yX2_keepsSilent, Cond.code yX2_keepsSilent cX2_keepsSilent 2 (some .int), Cond.fieldLink RX2 18 "SilentRent$House" "must" "[I", Cond.methodLink RX2 43 yX2_freeHours, Cond.instanceMethod yX2_freeHours, Cond.selects RX2 yX2_freeHours yX2_freeHours, Cond.code yX2_freeHours cX2_freeHours 2 (some .int), Cond.fieldLink RX2 15 "SilentRent$House" "sleep" "[I", Cond.methodLink RX3 53 yX3_withRoom, Cond.instanceMethod yX3_withRoom, Cond.selects RX3 yX3_withRoom yX3_withRoom, Cond.code yX3_withRoom cX3_withRoom 5 (some .int), Cond.fieldLink RX3 46 "SilentRent$House" "price" "[I", Cond.methodLink RX3 39 yX3_firstOfBest, Cond.instanceMethod yX3_firstOfBest, Cond.selects RX3 yX3_firstOfBest yX3_firstOfBest, Cond.code yX3_firstOfBest cX3_firstOfBest 5 (some .int)]
def wsX3_solve : List Cond := .code yX3_solve cX3_solve 4 none :: ((wsX3_solve_r1 ++ wsX3_solve_r2) ++ wsX30 ++ wsX20)
def wsX3_howMany : List Cond := .code yX3_howMany cX3_howMany 4 (some .int) :: ([.fieldLink RX3 20 "SilentRent$House" "tenants" "I", .fieldLink RX3 9 "SilentRent$Housing" "home" "[I"] ++ wsX20 ++ wsX30)
def wsX3_prices : List Cond := .code yX3_prices cX3_prices 4 (some .int) :: ([.fieldLink RX3 20 "SilentRent$House" "tenants" "I", .fieldLink RX3 9 "SilentRent$Housing" "home" "[I", .fieldLink RX3 46 "SilentRent$House" "price" "[I", .methodLink RX3 42 yX2_hasRoom, .instanceMethod yX2_hasRoom, .selects RX2 yX2_hasRoom yX2_hasRoom, .initialized RX2, .code yX2_hasRoom cX2_hasRoom 2 (some .boolean), .fieldLink RX2 33 "SilentRent$House" "rooms" "I"] ++ wsX20 ++ wsX30)
def wsX5_init : List Cond := .code yX5_init cX5_init 1 none :: ([.methodLink RX5 3 objectInit, .instanceMethod objectInit, .code objectInit ⟨#[0xb1]⟩ 1 none, .arrayClass .int, .fieldLink RX5 9 "SilentRent$Now" "home" "[I", .fieldLink RX5 15 "SilentRent$Now" "talked" "[I", .fieldLink RX5 18 "SilentRent$Now" "pays" "[I", .fieldLink RX5 21 "SilentRent$Now" "debt" "[I", .methodLink RX5 24 yJ7_fill_53178, .static yJ7_fill_53178, .initialized RJ7, .code yJ7_fill_53178 cJ7_fill_53178 4 none] ++ wsX50)
def wsX6_init : List Cond := .code yX6_init cX6_init 2 none :: ([.methodLink RX6 3 objectInit, .instanceMethod objectInit, .code objectInit ⟨#[0xb1]⟩ 1 none, .classLink RX6 9 RX5, .fieldLink RX6 11 "SilentRent$Past" "steps" "[LSilentRent$Now;", .instantiable RX5 5, .initialized RX5, .methodLink RX6 17 yX5_init, .instanceMethod yX5_init, .code yX5_init cX5_init 1 none, .methodLink RX5 3 objectInit, .arrayClass .int, .fieldLink RX5 9 "SilentRent$Now" "home" "[I", .fieldLink RX5 15 "SilentRent$Now" "talked" "[I", .fieldLink RX5 18 "SilentRent$Now" "pays" "[I", .fieldLink RX5 21 "SilentRent$Now" "debt" "[I", .methodLink RX5 24 yJ7_fill_53178, .static yJ7_fill_53178, .initialized RJ7, .code yJ7_fill_53178 cJ7_fill_53178 4 none] ++ wsX60 ++ wsX50)
def wsX4_init_r1 : List Cond := [Cond.methodLink RX4 1 objectInit, Cond.instanceMethod objectInit, Cond.code objectInit ⟨#[0xb1]⟩ 1 none, Cond.classLink RX4 7 RX5, Cond.instantiable RX5 5, Cond.initialized RX5, Cond.fieldLink RX4 10 "SilentRent$Image" "now" "LSilentRent$Now;", Cond.classLink RX4 16 RX6, Cond.instantiable RX6 2, Cond.initialized RX6, Cond.fieldLink RX4 19 "SilentRent$Image" "past" "LSilentRent$Past;", Cond.methodLink RX4 9 yX5_init, Cond.instanceMethod yX5_init, Cond.code yX5_init cX5_init 1 none, Cond.methodLink RX5 3 objectInit, Cond.arrayClass .int, Cond.fieldLink RX5 9 "SilentRent$Now" "home" "[I", Cond.fieldLink RX5 15 "SilentRent$Now" "talked" "[I", Cond.fieldLink RX5 18 "SilentRent$Now" "pays" "[I", Cond.fieldLink RX5 21 "SilentRent$Now" "debt" "[I", Cond.methodLink RX5 24 yJ7_fill_53178, Cond.static yJ7_fill_53178, Cond.initialized RJ7, Cond.code yJ7_fill_53178 cJ7_fill_53178 4 none]
def wsX4_init_r2 : List Cond := [Cond.methodLink RX4 18 yX6_init, Cond.instanceMethod yX6_init, Cond.code yX6_init cX6_init 2 none, Cond.methodLink RX6 3 objectInit, Cond.classLink RX6 9 RX5, Cond.fieldLink RX6 11 "SilentRent$Past" "steps" "[LSilentRent$Now;", Cond.methodLink RX6 17 yX5_init]
def wsX4_init : List Cond := .code yX4_init cX4_init 1 none :: ((wsX4_init_r1 ++ wsX4_init_r2) ++ wsX50 ++ wsX40 ++ wsX60)
def wsX5_begin : List Cond := .code yX5_begin cX5_begin 1 none :: ([.fieldLink RX5 30 "SilentRent$Now" "day" "I", .fieldLink RX5 9 "SilentRent$Now" "home" "[I", .fieldLink RX5 15 "SilentRent$Now" "talked" "[I", .fieldLink RX5 18 "SilentRent$Now" "pays" "[I", .fieldLink RX5 21 "SilentRent$Now" "debt" "[I", .methodLink RX5 24 yJ7_fill_53178, .static yJ7_fill_53178, .initialized RJ7, .code yJ7_fill_53178 cJ7_fill_53178 4 none] ++ wsX50)
def wsX5_copyFrom : List Cond := .code yX5_copyFrom cX5_copyFrom 2 none :: ([.fieldLink RX5 30 "SilentRent$Now" "day" "I", .fieldLink RX5 9 "SilentRent$Now" "home" "[I", .methodLink RX5 34 arraycopyName, .native arraycopyName, .static arraycopyName, .initialized "java/lang/System", .fieldLink RX5 15 "SilentRent$Now" "talked" "[I", .fieldLink RX5 18 "SilentRent$Now" "pays" "[I", .fieldLink RX5 21 "SilentRent$Now" "debt" "[I"] ++ wsX50)
def wsX5_dweller : List Cond := .code yX5_dweller cX5_dweller 3 (some .int) :: ([.fieldLink RX5 9 "SilentRent$Now" "home" "[I"] ++ wsX50)
def wsX5_allDebts : List Cond := .code yX5_allDebts cX5_allDebts 3 (some .int) :: ([.fieldLink RX5 21 "SilentRent$Now" "debt" "[I"] ++ wsX50)
def wsX6_loseOldest : List Cond := .code yX6_loseOldest cX6_loseOldest 3 none :: ([.fieldLink RX6 11 "SilentRent$Past" "steps" "[LSilentRent$Now;", .fieldLink RX6 18 "SilentRent$Past" "known" "I"] ++ wsX60)
def wsX6_push : List Cond := .code yX6_push cX6_push 2 none :: ([.fieldLink RX6 18 "SilentRent$Past" "known" "I", .fieldLink RX6 11 "SilentRent$Past" "steps" "[LSilentRent$Now;", .methodLink RX6 22 yX6_loseOldest, .instanceMethod yX6_loseOldest, .selects RX6 yX6_loseOldest yX6_loseOldest, .initialized RX6, .code yX6_loseOldest cX6_loseOldest 3 none, .methodLink RX6 25 yX5_copyFrom, .instanceMethod yX5_copyFrom, .selects RX5 yX5_copyFrom yX5_copyFrom, .initialized RX5, .code yX5_copyFrom cX5_copyFrom 2 none, .fieldLink RX5 30 "SilentRent$Now" "day" "I", .fieldLink RX5 9 "SilentRent$Now" "home" "[I", .methodLink RX5 34 arraycopyName, .native arraycopyName, .static arraycopyName, .initialized "java/lang/System", .fieldLink RX5 15 "SilentRent$Now" "talked" "[I", .fieldLink RX5 18 "SilentRent$Now" "pays" "[I", .fieldLink RX5 21 "SilentRent$Now" "debt" "[I"] ++ wsX60 ++ wsX50)
def wsX6_pop : List Cond := .code yX6_pop cX6_pop 2 none :: ([.fieldLink RX6 18 "SilentRent$Past" "known" "I", .fieldLink RX6 11 "SilentRent$Past" "steps" "[LSilentRent$Now;", .methodLink RX6 25 yX5_copyFrom, .instanceMethod yX5_copyFrom, .selects RX5 yX5_copyFrom yX5_copyFrom, .initialized RX5, .code yX5_copyFrom cX5_copyFrom 2 none, .fieldLink RX5 30 "SilentRent$Now" "day" "I", .fieldLink RX5 9 "SilentRent$Now" "home" "[I", .methodLink RX5 34 arraycopyName, .native arraycopyName, .static arraycopyName, .initialized "java/lang/System", .fieldLink RX5 15 "SilentRent$Now" "talked" "[I", .fieldLink RX5 18 "SilentRent$Now" "pays" "[I", .fieldLink RX5 21 "SilentRent$Now" "debt" "[I"] ++ wsX60 ++ wsX50)
def wsX6_copyFrom : List Cond := .code yX6_copyFrom cX6_copyFrom 3 none :: ([.fieldLink RX6 18 "SilentRent$Past" "known" "I", .fieldLink RX6 11 "SilentRent$Past" "steps" "[LSilentRent$Now;", .methodLink RX6 25 yX5_copyFrom, .instanceMethod yX5_copyFrom, .selects RX5 yX5_copyFrom yX5_copyFrom, .initialized RX5, .code yX5_copyFrom cX5_copyFrom 2 none, .fieldLink RX5 30 "SilentRent$Now" "day" "I", .fieldLink RX5 9 "SilentRent$Now" "home" "[I", .methodLink RX5 34 arraycopyName, .native arraycopyName, .static arraycopyName, .initialized "java/lang/System", .fieldLink RX5 15 "SilentRent$Now" "talked" "[I", .fieldLink RX5 18 "SilentRent$Now" "pays" "[I", .fieldLink RX5 21 "SilentRent$Now" "debt" "[I"] ++ wsX60 ++ wsX50)
def wsX7_init : List Cond := .code yX7_init cX7_init 1 none :: ([.methodLink RX7 3 objectInit, .instanceMethod objectInit, .code objectInit ⟨#[0xb1]⟩ 1 none, .arrayClass .int, .fieldLink RX7 9 "SilentRent$Text" "bytes" "[I"] ++ wsX70)
def wsX7_kindOf : List Cond := .code yX7_kindOf cX7_kindOf 1 (some .int) :: ([])
def wsX7_takeDigits : List Cond := .code yX7_takeDigits cX7_takeDigits 2 none :: ([.fieldLink RX7 27 "SilentRent$Text" "next" "I", .fieldLink RX7 43 "SilentRent$Text" "start" "I", .fieldLink RX7 9 "SilentRent$Text" "bytes" "[I", .fieldLink RX7 36 "SilentRent$Text" "token" "I", .fieldLink RX7 46 "SilentRent$Text" "value" "I"] ++ wsX70)
def wsX7_step : List Cond := .code yX7_step cX7_step 1 none :: ([.fieldLink RX7 27 "SilentRent$Text" "next" "I", .fieldLink RX7 30 "SilentRent$Text" "length" "I", .fieldLink RX7 9 "SilentRent$Text" "bytes" "[I", .fieldLink RX7 43 "SilentRent$Text" "start" "I", .fieldLink RX7 36 "SilentRent$Text" "token" "I", .fieldLink RX7 46 "SilentRent$Text" "value" "I", .methodLink RX7 90 yX7_kindOf, .static yX7_kindOf, .initialized RX7, .code yX7_kindOf cX7_kindOf 1 (some .int), .methodLink RX7 94 yX7_takeDigits, .instanceMethod yX7_takeDigits, .selects RX7 yX7_takeDigits yX7_takeDigits, .code yX7_takeDigits cX7_takeDigits 2 none] ++ wsX70)
def wsX7_number : List Cond := .code yX7_number cX7_number 3 (some .boolean) :: ([.fieldLink RX7 36 "SilentRent$Text" "token" "I", .fieldLink RX7 46 "SilentRent$Text" "value" "I", .methodLink RX7 33 yX7_step, .instanceMethod yX7_step, .selects RX7 yX7_step yX7_step, .initialized RX7, .code yX7_step cX7_step 1 none, .fieldLink RX7 27 "SilentRent$Text" "next" "I", .fieldLink RX7 30 "SilentRent$Text" "length" "I", .fieldLink RX7 9 "SilentRent$Text" "bytes" "[I", .fieldLink RX7 43 "SilentRent$Text" "start" "I", .methodLink RX7 90 yX7_kindOf, .static yX7_kindOf, .code yX7_kindOf cX7_kindOf 1 (some .int), .methodLink RX7 94 yX7_takeDigits, .instanceMethod yX7_takeDigits, .selects RX7 yX7_takeDigits yX7_takeDigits, .code yX7_takeDigits cX7_takeDigits 2 none] ++ wsX70)
def wsX7_readRoom : List Cond := .code yX7_readRoom cX7_readRoom 3 (some .boolean) :: ([.fieldLink RX7 15 "SilentRent$House" "rooms" "I", .fieldLink RX7 69 "SilentRent$House" "price" "[I", .fieldLink RX7 46 "SilentRent$Text" "value" "I", .methodLink RX7 65 yX7_number, .instanceMethod yX7_number, .selects RX7 yX7_number yX7_number, .initialized RX7, .code yX7_number cX7_number 3 (some .boolean), .fieldLink RX7 36 "SilentRent$Text" "token" "I", .methodLink RX7 33 yX7_step, .instanceMethod yX7_step, .selects RX7 yX7_step yX7_step, .code yX7_step cX7_step 1 none, .fieldLink RX7 27 "SilentRent$Text" "next" "I", .fieldLink RX7 30 "SilentRent$Text" "length" "I", .fieldLink RX7 9 "SilentRent$Text" "bytes" "[I", .fieldLink RX7 43 "SilentRent$Text" "start" "I", .methodLink RX7 90 yX7_kindOf, .static yX7_kindOf, .code yX7_kindOf cX7_kindOf 1 (some .int), .methodLink RX7 94 yX7_takeDigits, .instanceMethod yX7_takeDigits, .selects RX7 yX7_takeDigits yX7_takeDigits, .code yX7_takeDigits cX7_takeDigits 2 none] ++ wsX20 ++ wsX70)
def wsX7_semicolon : List Cond := .code yX7_semicolon cX7_semicolon 1 (some .boolean) :: ([.fieldLink RX7 36 "SilentRent$Text" "token" "I", .methodLink RX7 33 yX7_step, .instanceMethod yX7_step, .selects RX7 yX7_step yX7_step, .initialized RX7, .code yX7_step cX7_step 1 none, .fieldLink RX7 27 "SilentRent$Text" "next" "I", .fieldLink RX7 30 "SilentRent$Text" "length" "I", .fieldLink RX7 9 "SilentRent$Text" "bytes" "[I", .fieldLink RX7 43 "SilentRent$Text" "start" "I", .fieldLink RX7 46 "SilentRent$Text" "value" "I", .methodLink RX7 90 yX7_kindOf, .static yX7_kindOf, .code yX7_kindOf cX7_kindOf 1 (some .int), .methodLink RX7 94 yX7_takeDigits, .instanceMethod yX7_takeDigits, .selects RX7 yX7_takeDigits yX7_takeDigits, .code yX7_takeDigits cX7_takeDigits 2 none] ++ wsX70)
def wsX7_readTenant_r1 : List Cond := [Cond.fieldLink RX7 21 "SilentRent$House" "tenants" "I", Cond.fieldLink RX7 72 "SilentRent$House" "sleep" "[I", Cond.fieldLink RX7 46 "SilentRent$Text" "value" "I", Cond.fieldLink RX7 75 "SilentRent$House" "must" "[I", Cond.fieldLink RX7 78 "SilentRent$House" "wits" "[I", Cond.fieldLink RX7 81 "SilentRent$House" "asks" "[I", Cond.fieldLink RX7 84 "SilentRent$House" "hears" "[I", Cond.methodLink RX7 65 yX7_number, Cond.instanceMethod yX7_number, Cond.selects RX7 yX7_number yX7_number, Cond.initialized RX7, Cond.code yX7_number cX7_number 3 (some .boolean), Cond.fieldLink RX7 36 "SilentRent$Text" "token" "I", Cond.methodLink RX7 33 yX7_step, Cond.instanceMethod yX7_step, Cond.selects RX7 yX7_step yX7_step, Cond.code yX7_step cX7_step 1 none, Cond.fieldLink RX7 27 "SilentRent$Text" "next" "I", Cond.fieldLink RX7 30 "SilentRent$Text" "length" "I", Cond.fieldLink RX7 9 "SilentRent$Text" "bytes" "[I", Cond.fieldLink RX7 43 "SilentRent$Text" "start" "I", Cond.methodLink RX7 90 yX7_kindOf, Cond.static yX7_kindOf, Cond.code yX7_kindOf cX7_kindOf 1 (some .int)]
def wsX7_readTenant_r2 : List Cond := [Cond.methodLink RX7 94 yX7_takeDigits, Cond.instanceMethod yX7_takeDigits, Cond.selects RX7 yX7_takeDigits yX7_takeDigits, Cond.code yX7_takeDigits cX7_takeDigits 2 none]
def wsX7_readTenant : List Cond := .code yX7_readTenant cX7_readTenant 3 (some .boolean) :: ((wsX7_readTenant_r1 ++ wsX7_readTenant_r2) ++ wsX20 ++ wsX70)
def wsX7_readHearing : List Cond := .code yX7_readHearing cX7_readHearing 3 (some .boolean) :: ([.fieldLink RX7 21 "SilentRent$House" "tenants" "I", .fieldLink RX7 46 "SilentRent$Text" "value" "I", .fieldLink RX7 84 "SilentRent$House" "hears" "[I", .methodLink RX7 65 yX7_number, .instanceMethod yX7_number, .selects RX7 yX7_number yX7_number, .initialized RX7, .code yX7_number cX7_number 3 (some .boolean), .fieldLink RX7 36 "SilentRent$Text" "token" "I", .methodLink RX7 33 yX7_step, .instanceMethod yX7_step, .selects RX7 yX7_step yX7_step, .code yX7_step cX7_step 1 none, .fieldLink RX7 27 "SilentRent$Text" "next" "I", .fieldLink RX7 30 "SilentRent$Text" "length" "I", .fieldLink RX7 9 "SilentRent$Text" "bytes" "[I", .fieldLink RX7 43 "SilentRent$Text" "start" "I", .methodLink RX7 90 yX7_kindOf, .static yX7_kindOf, .code yX7_kindOf cX7_kindOf 1 (some .int), .methodLink RX7 94 yX7_takeDigits, .instanceMethod yX7_takeDigits, .selects RX7 yX7_takeDigits yX7_takeDigits, .code yX7_takeDigits cX7_takeDigits 2 none] ++ wsX20 ++ wsX70)
def wsX7_readChair : List Cond := .code yX7_readChair cX7_readChair 3 (some .boolean) :: ([.fieldLink RX7 24 "SilentRent$House" "chairs" "I", .fieldLink RX7 87 "SilentRent$House" "lips" "[I", .fieldLink RX7 46 "SilentRent$Text" "value" "I", .methodLink RX7 65 yX7_number, .instanceMethod yX7_number, .selects RX7 yX7_number yX7_number, .initialized RX7, .code yX7_number cX7_number 3 (some .boolean), .fieldLink RX7 36 "SilentRent$Text" "token" "I", .methodLink RX7 33 yX7_step, .instanceMethod yX7_step, .selects RX7 yX7_step yX7_step, .code yX7_step cX7_step 1 none, .fieldLink RX7 27 "SilentRent$Text" "next" "I", .fieldLink RX7 30 "SilentRent$Text" "length" "I", .fieldLink RX7 9 "SilentRent$Text" "bytes" "[I", .fieldLink RX7 43 "SilentRent$Text" "start" "I", .methodLink RX7 90 yX7_kindOf, .static yX7_kindOf, .code yX7_kindOf cX7_kindOf 1 (some .int), .methodLink RX7 94 yX7_takeDigits, .instanceMethod yX7_takeDigits, .selects RX7 yX7_takeDigits yX7_takeDigits, .code yX7_takeDigits cX7_takeDigits 2 none] ++ wsX20 ++ wsX70)
def wsX7_readItem_r1 : List Cond := [Cond.fieldLink RX7 36 "SilentRent$Text" "token" "I", Cond.fieldLink RX7 46 "SilentRent$Text" "value" "I", Cond.methodLink RX7 49 yX7_readRoom, Cond.instanceMethod yX7_readRoom, Cond.selects RX7 yX7_readRoom yX7_readRoom, Cond.initialized RX7, Cond.code yX7_readRoom cX7_readRoom 3 (some .boolean), Cond.fieldLink RX7 15 "SilentRent$House" "rooms" "I", Cond.fieldLink RX7 69 "SilentRent$House" "price" "[I", Cond.methodLink RX7 65 yX7_number, Cond.instanceMethod yX7_number, Cond.selects RX7 yX7_number yX7_number, Cond.code yX7_number cX7_number 3 (some .boolean), Cond.methodLink RX7 33 yX7_step, Cond.instanceMethod yX7_step, Cond.selects RX7 yX7_step yX7_step, Cond.code yX7_step cX7_step 1 none, Cond.fieldLink RX7 27 "SilentRent$Text" "next" "I", Cond.fieldLink RX7 30 "SilentRent$Text" "length" "I", Cond.fieldLink RX7 9 "SilentRent$Text" "bytes" "[I", Cond.fieldLink RX7 43 "SilentRent$Text" "start" "I", Cond.methodLink RX7 90 yX7_kindOf, Cond.static yX7_kindOf, Cond.code yX7_kindOf cX7_kindOf 1 (some .int)]
def wsX7_readItem_r2 : List Cond := [Cond.methodLink RX7 94 yX7_takeDigits, Cond.instanceMethod yX7_takeDigits, Cond.selects RX7 yX7_takeDigits yX7_takeDigits, Cond.code yX7_takeDigits cX7_takeDigits 2 none, Cond.methodLink RX7 52 yX7_semicolon, Cond.instanceMethod yX7_semicolon, Cond.selects RX7 yX7_semicolon yX7_semicolon, Cond.code yX7_semicolon cX7_semicolon 1 (some .boolean), Cond.methodLink RX7 56 yX7_readTenant, Cond.instanceMethod yX7_readTenant, Cond.selects RX7 yX7_readTenant yX7_readTenant, Cond.code yX7_readTenant cX7_readTenant 3 (some .boolean), Cond.fieldLink RX7 21 "SilentRent$House" "tenants" "I", Cond.fieldLink RX7 72 "SilentRent$House" "sleep" "[I", Cond.fieldLink RX7 75 "SilentRent$House" "must" "[I", Cond.fieldLink RX7 78 "SilentRent$House" "wits" "[I", Cond.fieldLink RX7 81 "SilentRent$House" "asks" "[I", Cond.fieldLink RX7 84 "SilentRent$House" "hears" "[I", Cond.methodLink RX7 59 yX7_readHearing, Cond.instanceMethod yX7_readHearing, Cond.selects RX7 yX7_readHearing yX7_readHearing, Cond.code yX7_readHearing cX7_readHearing 3 (some .boolean), Cond.methodLink RX7 62 yX7_readChair, Cond.instanceMethod yX7_readChair]
def wsX7_readItem_r3 : List Cond := [Cond.selects RX7 yX7_readChair yX7_readChair, Cond.code yX7_readChair cX7_readChair 3 (some .boolean), Cond.fieldLink RX7 24 "SilentRent$House" "chairs" "I", Cond.fieldLink RX7 87 "SilentRent$House" "lips" "[I"]
def wsX7_readItem : List Cond := .code yX7_readItem cX7_readItem 2 (some .boolean) :: ((wsX7_readItem_r1 ++ (wsX7_readItem_r2 ++ wsX7_readItem_r3)) ++ wsX70 ++ wsX20)
def wsX7_readInto_r1 : List Cond := [Cond.fieldLink RX7 15 "SilentRent$House" "rooms" "I", Cond.fieldLink RX7 21 "SilentRent$House" "tenants" "I", Cond.fieldLink RX7 24 "SilentRent$House" "chairs" "I", Cond.fieldLink RX7 27 "SilentRent$Text" "next" "I", Cond.fieldLink RX7 30 "SilentRent$Text" "length" "I", Cond.fieldLink RX7 36 "SilentRent$Text" "token" "I", Cond.fieldLink RX7 43 "SilentRent$Text" "start" "I", Cond.methodLink RX7 33 yX7_step, Cond.instanceMethod yX7_step, Cond.selects RX7 yX7_step yX7_step, Cond.initialized RX7, Cond.code yX7_step cX7_step 1 none, Cond.fieldLink RX7 9 "SilentRent$Text" "bytes" "[I", Cond.fieldLink RX7 46 "SilentRent$Text" "value" "I", Cond.methodLink RX7 90 yX7_kindOf, Cond.static yX7_kindOf, Cond.code yX7_kindOf cX7_kindOf 1 (some .int), Cond.methodLink RX7 94 yX7_takeDigits, Cond.instanceMethod yX7_takeDigits, Cond.selects RX7 yX7_takeDigits yX7_takeDigits, Cond.code yX7_takeDigits cX7_takeDigits 2 none, Cond.methodLink RX7 39 yX7_readItem, Cond.instanceMethod yX7_readItem, Cond.selects RX7 yX7_readItem yX7_readItem]
def wsX7_readInto_r2 : List Cond := [Cond.code yX7_readItem cX7_readItem 2 (some .boolean), Cond.methodLink RX7 49 yX7_readRoom, Cond.instanceMethod yX7_readRoom, Cond.selects RX7 yX7_readRoom yX7_readRoom, Cond.code yX7_readRoom cX7_readRoom 3 (some .boolean), Cond.fieldLink RX7 69 "SilentRent$House" "price" "[I", Cond.methodLink RX7 65 yX7_number, Cond.instanceMethod yX7_number, Cond.selects RX7 yX7_number yX7_number, Cond.code yX7_number cX7_number 3 (some .boolean), Cond.methodLink RX7 52 yX7_semicolon, Cond.instanceMethod yX7_semicolon, Cond.selects RX7 yX7_semicolon yX7_semicolon, Cond.code yX7_semicolon cX7_semicolon 1 (some .boolean), Cond.methodLink RX7 56 yX7_readTenant, Cond.instanceMethod yX7_readTenant, Cond.selects RX7 yX7_readTenant yX7_readTenant, Cond.code yX7_readTenant cX7_readTenant 3 (some .boolean), Cond.fieldLink RX7 72 "SilentRent$House" "sleep" "[I", Cond.fieldLink RX7 75 "SilentRent$House" "must" "[I", Cond.fieldLink RX7 78 "SilentRent$House" "wits" "[I", Cond.fieldLink RX7 81 "SilentRent$House" "asks" "[I", Cond.fieldLink RX7 84 "SilentRent$House" "hears" "[I", Cond.methodLink RX7 59 yX7_readHearing]
def wsX7_readInto_r3 : List Cond := [Cond.instanceMethod yX7_readHearing, Cond.selects RX7 yX7_readHearing yX7_readHearing, Cond.code yX7_readHearing cX7_readHearing 3 (some .boolean), Cond.methodLink RX7 62 yX7_readChair, Cond.instanceMethod yX7_readChair, Cond.selects RX7 yX7_readChair yX7_readChair, Cond.code yX7_readChair cX7_readChair 3 (some .boolean), Cond.fieldLink RX7 87 "SilentRent$House" "lips" "[I"]
def wsX7_readInto : List Cond := .code yX7_readInto cX7_readInto 3 (some .int) :: ((wsX7_readInto_r1 ++ (wsX7_readInto_r2 ++ wsX7_readInto_r3)) ++ wsX20 ++ wsX70)
def wsX8_init_r1 : List Cond := [Cond.methodLink RX8 1 objectInit, Cond.instanceMethod objectInit, Cond.code objectInit ⟨#[0xb1]⟩ 1 none, Cond.classLink RX8 7 RX7, Cond.instantiable RX7 6, Cond.initialized RX7, Cond.fieldLink RX8 10 "SilentRent" "text" "LSilentRent$Text;", Cond.classLink RX8 16 RX2, Cond.instantiable RX2 10, Cond.initialized RX2, Cond.fieldLink RX8 19 "SilentRent" "built" "LSilentRent$House;", Cond.fieldLink RX8 23 "SilentRent" "draft" "LSilentRent$House;", Cond.classLink RX8 26 RX5, Cond.instantiable RX5 5, Cond.initialized RX5, Cond.fieldLink RX8 29 "SilentRent" "now" "LSilentRent$Now;", Cond.classLink RX8 33 RX6, Cond.instantiable RX6 2, Cond.initialized RX6, Cond.fieldLink RX8 36 "SilentRent" "past" "LSilentRent$Past;", Cond.classLink RX8 40 RX4, Cond.fieldLink RX8 42 "SilentRent" "images" "[LSilentRent$Image;", Cond.classLink RX8 46 RX0, Cond.instantiable RX0 3]
def wsX8_init_r2 : List Cond := [Cond.initialized RX0, Cond.fieldLink RX8 49 "SilentRent" "lines" "LSilentRent$Book;", Cond.classLink RX8 53 RX3, Cond.instantiable RX3 2, Cond.initialized RX3, Cond.fieldLink RX8 56 "SilentRent" "housing" "LSilentRent$Housing;", Cond.classLink RX8 60 RX1, Cond.instantiable RX1 4, Cond.initialized RX1, Cond.fieldLink RX8 63 "SilentRent" "fitting" "LSilentRent$Fitting;", Cond.arrayClass .int, Cond.fieldLink RX8 67 "SilentRent" "groups" "[I", Cond.instantiable RX4 3, Cond.initialized RX4, Cond.instanceMethod yX7_init, Cond.code yX7_init cX7_init 1 none, Cond.methodLink RX7 3 objectInit, Cond.fieldLink RX7 9 "SilentRent$Text" "bytes" "[I", Cond.instanceMethod yX2_init, Cond.code yX2_init cX2_init 1 none, Cond.methodLink RX2 3 objectInit, Cond.fieldLink RX2 9 "SilentRent$House" "price" "[I", Cond.fieldLink RX2 15 "SilentRent$House" "sleep" "[I", Cond.fieldLink RX2 18 "SilentRent$House" "must" "[I"]
def wsX8_init_r3 : List Cond := [Cond.fieldLink RX2 21 "SilentRent$House" "wits" "[I", Cond.fieldLink RX2 24 "SilentRent$House" "asks" "[I", Cond.fieldLink RX2 27 "SilentRent$House" "hears" "[I", Cond.fieldLink RX2 30 "SilentRent$House" "lips" "[I", Cond.methodLink RX8 28 yX5_init, Cond.instanceMethod yX5_init, Cond.code yX5_init cX5_init 1 none, Cond.methodLink RX5 3 objectInit, Cond.fieldLink RX5 9 "SilentRent$Now" "home" "[I", Cond.fieldLink RX5 15 "SilentRent$Now" "talked" "[I", Cond.fieldLink RX5 18 "SilentRent$Now" "pays" "[I", Cond.fieldLink RX5 21 "SilentRent$Now" "debt" "[I", Cond.methodLink RX5 24 yJ7_fill_53178, Cond.static yJ7_fill_53178, Cond.initialized RJ7, Cond.code yJ7_fill_53178 cJ7_fill_53178 4 none, Cond.methodLink RX8 35 yX6_init, Cond.instanceMethod yX6_init, Cond.code yX6_init cX6_init 2 none, Cond.methodLink RX6 3 objectInit, Cond.classLink RX6 9 RX5, Cond.fieldLink RX6 11 "SilentRent$Past" "steps" "[LSilentRent$Now;", Cond.methodLink RX6 17 yX5_init, Cond.instanceMethod yX0_init]
def wsX8_init_r4 : List Cond := [Cond.code yX0_init cX0_init 1 none, Cond.methodLink RX0 3 objectInit, Cond.fieldLink RX0 9 "SilentRent$Book" "who" "[I", Cond.fieldLink RX0 15 "SilentRent$Book" "lacks" "[I", Cond.instanceMethod yX3_init, Cond.code yX3_init cX3_init 1 none, Cond.methodLink RX3 3 objectInit, Cond.fieldLink RX3 9 "SilentRent$Housing" "home" "[I", Cond.classLink RX3 15 "[[I", Cond.fieldLink RX3 17 "SilentRent$Housing" "best" "[[I", Cond.instanceMethod yX1_init, Cond.code yX1_init cX1_init 1 none, Cond.methodLink RX1 3 objectInit, Cond.fieldLink RX1 9 "SilentRent$Fitting" "ways" "[I", Cond.arrayClass .boolean, Cond.fieldLink RX1 15 "SilentRent$Fitting" "reached" "[Z", Cond.fieldLink RX1 19 "SilentRent$Fitting" "open" "[I", Cond.instanceMethod yX4_init, Cond.code yX4_init cX4_init 1 none, Cond.methodLink RX4 1 objectInit, Cond.classLink RX4 7 RX5, Cond.fieldLink RX4 10 "SilentRent$Image" "now" "LSilentRent$Now;", Cond.classLink RX4 16 RX6, Cond.fieldLink RX4 19 "SilentRent$Image" "past" "LSilentRent$Past;"]
def wsX8_init_r5 : List Cond := [Cond.methodLink RX4 9 yX5_init, Cond.methodLink RX4 18 yX6_init]
def wsX8_init : List Cond := .code yX8_init cX8_init 2 none :: ((wsX8_init_r1 ++ (wsX8_init_r2 ++ (wsX8_init_r3 ++ (wsX8_init_r4 ++ wsX8_init_r5)))) ++ wsX70 ++ wsX80 ++ wsX20 ++ wsX50 ++ wsX60 ++ wsX00 ++ wsX30 ++ wsX10 ++ wsX40)
def wsX8_type : List Cond := .code yX8_type cX8_type 2 (some .int) :: ([.fieldLink RX8 10 "SilentRent" "text" "LSilentRent$Text;", .fieldLink RX8 72 "SilentRent$Text" "length" "I", .fieldLink RX8 76 "SilentRent$Text" "bytes" "[I"] ++ wsX80 ++ wsX70)
def wsX8_clear : List Cond := .code yX8_clear cX8_clear 2 (some .int) :: ([.fieldLink RX8 10 "SilentRent" "text" "LSilentRent$Text;", .fieldLink RX8 72 "SilentRent$Text" "length" "I"] ++ wsX80 ++ wsX70)
def wsX8_house_r1 : List Cond := [Cond.fieldLink RX8 10 "SilentRent" "text" "LSilentRent$Text;", Cond.fieldLink RX8 23 "SilentRent" "draft" "LSilentRent$House;", Cond.fieldLink RX8 19 "SilentRent" "built" "LSilentRent$House;", Cond.fieldLink RX8 72 "SilentRent$Text" "length" "I", Cond.fieldLink RX8 29 "SilentRent" "now" "LSilentRent$Now;", Cond.fieldLink RX8 36 "SilentRent" "past" "LSilentRent$Past;", Cond.fieldLink RX8 86 "SilentRent$Past" "known" "I", Cond.fieldLink RX8 49 "SilentRent" "lines" "LSilentRent$Book;", Cond.fieldLink RX8 89 "SilentRent$Book" "length" "I", Cond.fieldLink RX8 42 "SilentRent" "images" "[LSilentRent$Image;", Cond.fieldLink RX8 90 "SilentRent$Image" "kept" "Z", Cond.methodLink RX8 79 yX7_readInto, Cond.instanceMethod yX7_readInto, Cond.selects RX7 yX7_readInto yX7_readInto, Cond.initialized RX7, Cond.code yX7_readInto cX7_readInto 3 (some .int), Cond.fieldLink RX7 15 "SilentRent$House" "rooms" "I", Cond.fieldLink RX7 21 "SilentRent$House" "tenants" "I", Cond.fieldLink RX7 24 "SilentRent$House" "chairs" "I", Cond.fieldLink RX7 27 "SilentRent$Text" "next" "I", Cond.fieldLink RX7 30 "SilentRent$Text" "length" "I", Cond.fieldLink RX7 36 "SilentRent$Text" "token" "I", Cond.fieldLink RX7 43 "SilentRent$Text" "start" "I", Cond.methodLink RX7 33 yX7_step]
def wsX8_house_r2 : List Cond := [Cond.instanceMethod yX7_step, Cond.selects RX7 yX7_step yX7_step, Cond.code yX7_step cX7_step 1 none, Cond.fieldLink RX7 9 "SilentRent$Text" "bytes" "[I", Cond.fieldLink RX7 46 "SilentRent$Text" "value" "I", Cond.methodLink RX7 90 yX7_kindOf, Cond.static yX7_kindOf, Cond.code yX7_kindOf cX7_kindOf 1 (some .int), Cond.methodLink RX7 94 yX7_takeDigits, Cond.instanceMethod yX7_takeDigits, Cond.selects RX7 yX7_takeDigits yX7_takeDigits, Cond.code yX7_takeDigits cX7_takeDigits 2 none, Cond.methodLink RX7 39 yX7_readItem, Cond.instanceMethod yX7_readItem, Cond.selects RX7 yX7_readItem yX7_readItem, Cond.code yX7_readItem cX7_readItem 2 (some .boolean), Cond.methodLink RX7 49 yX7_readRoom, Cond.instanceMethod yX7_readRoom, Cond.selects RX7 yX7_readRoom yX7_readRoom, Cond.code yX7_readRoom cX7_readRoom 3 (some .boolean), Cond.fieldLink RX7 69 "SilentRent$House" "price" "[I", Cond.methodLink RX7 65 yX7_number, Cond.instanceMethod yX7_number, Cond.selects RX7 yX7_number yX7_number]
def wsX8_house_r3 : List Cond := [Cond.code yX7_number cX7_number 3 (some .boolean), Cond.methodLink RX7 52 yX7_semicolon, Cond.instanceMethod yX7_semicolon, Cond.selects RX7 yX7_semicolon yX7_semicolon, Cond.code yX7_semicolon cX7_semicolon 1 (some .boolean), Cond.methodLink RX7 56 yX7_readTenant, Cond.instanceMethod yX7_readTenant, Cond.selects RX7 yX7_readTenant yX7_readTenant, Cond.code yX7_readTenant cX7_readTenant 3 (some .boolean), Cond.fieldLink RX7 72 "SilentRent$House" "sleep" "[I", Cond.fieldLink RX7 75 "SilentRent$House" "must" "[I", Cond.fieldLink RX7 78 "SilentRent$House" "wits" "[I", Cond.fieldLink RX7 81 "SilentRent$House" "asks" "[I", Cond.fieldLink RX7 84 "SilentRent$House" "hears" "[I", Cond.methodLink RX7 59 yX7_readHearing, Cond.instanceMethod yX7_readHearing, Cond.selects RX7 yX7_readHearing yX7_readHearing, Cond.code yX7_readHearing cX7_readHearing 3 (some .boolean), Cond.methodLink RX7 62 yX7_readChair, Cond.instanceMethod yX7_readChair, Cond.selects RX7 yX7_readChair yX7_readChair, Cond.code yX7_readChair cX7_readChair 3 (some .boolean), Cond.fieldLink RX7 87 "SilentRent$House" "lips" "[I", Cond.methodLink RX8 83 yX5_begin]
def wsX8_house_r4 : List Cond := [Cond.instanceMethod yX5_begin, Cond.selects RX5 yX5_begin yX5_begin, Cond.initialized RX5, Cond.code yX5_begin cX5_begin 1 none, Cond.fieldLink RX5 30 "SilentRent$Now" "day" "I", Cond.fieldLink RX5 9 "SilentRent$Now" "home" "[I", Cond.fieldLink RX5 15 "SilentRent$Now" "talked" "[I", Cond.fieldLink RX5 18 "SilentRent$Now" "pays" "[I", Cond.fieldLink RX5 21 "SilentRent$Now" "debt" "[I", Cond.methodLink RX5 24 yJ7_fill_53178, Cond.static yJ7_fill_53178, Cond.initialized RJ7, Cond.code yJ7_fill_53178 cJ7_fill_53178 4 none]
def wsX8_house : List Cond := .code yX8_house cX8_house 4 (some .int) :: ((wsX8_house_r1 ++ (wsX8_house_r2 ++ (wsX8_house_r3 ++ wsX8_house_r4))) ++ wsX80 ++ wsX70 ++ wsX60 ++ wsX00 ++ wsX40 ++ wsX20 ++ wsX50)
def wsX8_room_r1 : List Cond := [Cond.fieldLink RX8 19 "SilentRent" "built" "LSilentRent$House;", Cond.fieldLink RX8 98 "SilentRent$House" "price" "[I", Cond.fieldLink RX8 29 "SilentRent" "now" "LSilentRent$Now;", Cond.methodLink RX8 94 yX2_hasRoom, Cond.instanceMethod yX2_hasRoom, Cond.selects RX2 yX2_hasRoom yX2_hasRoom, Cond.initialized RX2, Cond.code yX2_hasRoom cX2_hasRoom 2 (some .boolean), Cond.fieldLink RX2 33 "SilentRent$House" "rooms" "I", Cond.methodLink RX8 101 yX5_dweller, Cond.instanceMethod yX5_dweller, Cond.selects RX5 yX5_dweller yX5_dweller, Cond.initialized RX5, Cond.code yX5_dweller cX5_dweller 3 (some .int), Cond.fieldLink RX5 9 "SilentRent$Now" "home" "[I", Cond.methodLink RX8 105 yX2_whoMeets, Cond.instanceMethod yX2_whoMeets, Cond.selects RX2 yX2_whoMeets yX2_whoMeets, Cond.code yX2_whoMeets cX2_whoMeets 4 (some .int), Cond.fieldLink RX2 37 "SilentRent$House" "tenants" "I", Cond.methodLink RX2 50 yX2_meets, Cond.instanceMethod yX2_meets, Cond.selects RX2 yX2_meets yX2_meets, Cond.code yX2_meets cX2_meets 3 (some .boolean)]
def wsX8_room_r2 : List Cond := [Cond.fieldLink RX2 9 "SilentRent$House" "price" "[I", Cond.methodLink RX2 47 yX2_keepsSilent, Cond.instanceMethod yX2_keepsSilent, Cond.selects RX2 yX2_keepsSilent yX2_keepsSilent, Cond.code yX2_keepsSilent cX2_keepsSilent 2 (some .int), Cond.fieldLink RX2 18 "SilentRent$House" "must" "[I", Cond.methodLink RX2 43 yX2_freeHours, Cond.instanceMethod yX2_freeHours, Cond.selects RX2 yX2_freeHours yX2_freeHours, Cond.code yX2_freeHours cX2_freeHours 2 (some .int), Cond.fieldLink RX2 15 "SilentRent$House" "sleep" "[I"]
def wsX8_room : List Cond := .code yX8_room cX8_room 3 (some .int) :: ((wsX8_room_r1 ++ wsX8_room_r2) ++ wsX80 ++ wsX20 ++ wsX50)
def wsX8_silentHours : List Cond := .code yX8_silentHours cX8_silentHours 2 (some .int) :: ([.fieldLink RX8 19 "SilentRent" "built" "LSilentRent$House;", .fieldLink RX8 29 "SilentRent" "now" "LSilentRent$Now;", .fieldLink RX8 129 "SilentRent$Now" "pays" "[I", .methodLink RX8 170 Lib.Math.max.name, .static Lib.Math.max.name, .initialized "java/lang/Math", .code Lib.Math.max.name Lib.Math.max.code 2 (some .int), .methodLink RX8 155 yX2_freeHours, .instanceMethod yX2_freeHours, .selects RX2 yX2_freeHours yX2_freeHours, .initialized RX2, .code yX2_freeHours cX2_freeHours 2 (some .int), .fieldLink RX2 15 "SilentRent$House" "sleep" "[I"] ++ wsX80 ++ wsX50 ++ wsX20)
def wsX8_tenant_r1 : List Cond := [Cond.fieldLink RX8 19 "SilentRent" "built" "LSilentRent$House;", Cond.fieldLink RX8 111 "SilentRent$House" "sleep" "[I", Cond.fieldLink RX8 114 "SilentRent$House" "must" "[I", Cond.fieldLink RX8 117 "SilentRent$House" "wits" "[I", Cond.fieldLink RX8 120 "SilentRent$House" "asks" "[I", Cond.fieldLink RX8 29 "SilentRent" "now" "LSilentRent$Now;", Cond.fieldLink RX8 123 "SilentRent$Now" "home" "[I", Cond.fieldLink RX8 126 "SilentRent$Now" "talked" "[I", Cond.fieldLink RX8 129 "SilentRent$Now" "pays" "[I", Cond.fieldLink RX8 132 "SilentRent$Now" "debt" "[I", Cond.fieldLink RX8 138 "SilentRent$House" "hears" "[I", Cond.methodLink RX8 108 yX2_hasTenant, Cond.instanceMethod yX2_hasTenant, Cond.selects RX2 yX2_hasTenant yX2_hasTenant, Cond.initialized RX2, Cond.code yX2_hasTenant cX2_hasTenant 2 (some .boolean), Cond.fieldLink RX2 37 "SilentRent$House" "tenants" "I", Cond.methodLink RX8 135 yX8_silentHours, Cond.instanceMethod yX8_silentHours, Cond.selects RX8 yX8_silentHours yX8_silentHours, Cond.initialized RX8, Cond.code yX8_silentHours cX8_silentHours 2 (some .int), Cond.methodLink RX8 170 Lib.Math.max.name, Cond.static Lib.Math.max.name]
def wsX8_tenant_r2 : List Cond := [Cond.initialized "java/lang/Math", Cond.code Lib.Math.max.name Lib.Math.max.code 2 (some .int), Cond.methodLink RX8 155 yX2_freeHours, Cond.instanceMethod yX2_freeHours, Cond.selects RX2 yX2_freeHours yX2_freeHours, Cond.code yX2_freeHours cX2_freeHours 2 (some .int), Cond.fieldLink RX2 15 "SilentRent$House" "sleep" "[I"]
def wsX8_tenant : List Cond := .code yX8_tenant cX8_tenant 3 (some .int) :: ((wsX8_tenant_r1 ++ wsX8_tenant_r2) ++ wsX80 ++ wsX20 ++ wsX50)
def wsX8_chair : List Cond := .code yX8_chair cX8_chair 2 (some .int) :: ([.fieldLink RX8 19 "SilentRent" "built" "LSilentRent$House;", .fieldLink RX8 144 "SilentRent$House" "lips" "[I", .methodLink RX8 141 yX2_hasChair, .instanceMethod yX2_hasChair, .selects RX2 yX2_hasChair yX2_hasChair, .initialized RX2, .code yX2_hasChair cX2_hasChair 2 (some .boolean), .fieldLink RX2 40 "SilentRent$House" "chairs" "I", .methodLink RX8 147 yX2_everybody, .instanceMethod yX2_everybody, .selects RX2 yX2_everybody yX2_everybody, .code yX2_everybody cX2_everybody 1 (some .int), .fieldLink RX2 37 "SilentRent$House" "tenants" "I"] ++ wsX80 ++ wsX20)
def wsX8_moves_r1 : List Cond := [Cond.fieldLink RX8 19 "SilentRent" "built" "LSilentRent$House;", Cond.fieldLink RX8 29 "SilentRent" "now" "LSilentRent$Now;", Cond.fieldLink RX8 123 "SilentRent$Now" "home" "[I", Cond.fieldLink RX8 36 "SilentRent" "past" "LSilentRent$Past;", Cond.methodLink RX8 108 yX2_hasTenant, Cond.instanceMethod yX2_hasTenant, Cond.selects RX2 yX2_hasTenant yX2_hasTenant, Cond.initialized RX2, Cond.code yX2_hasTenant cX2_hasTenant 2 (some .boolean), Cond.fieldLink RX2 37 "SilentRent$House" "tenants" "I", Cond.methodLink RX8 94 yX2_hasRoom, Cond.instanceMethod yX2_hasRoom, Cond.selects RX2 yX2_hasRoom yX2_hasRoom, Cond.code yX2_hasRoom cX2_hasRoom 2 (some .boolean), Cond.fieldLink RX2 33 "SilentRent$House" "rooms" "I", Cond.methodLink RX8 101 yX5_dweller, Cond.instanceMethod yX5_dweller, Cond.selects RX5 yX5_dweller yX5_dweller, Cond.initialized RX5, Cond.code yX5_dweller cX5_dweller 3 (some .int), Cond.fieldLink RX5 9 "SilentRent$Now" "home" "[I", Cond.methodLink RX8 151 yX6_push, Cond.instanceMethod yX6_push, Cond.selects RX6 yX6_push yX6_push]
def wsX8_moves_r2 : List Cond := [Cond.initialized RX6, Cond.code yX6_push cX6_push 2 none, Cond.fieldLink RX6 18 "SilentRent$Past" "known" "I", Cond.fieldLink RX6 11 "SilentRent$Past" "steps" "[LSilentRent$Now;", Cond.methodLink RX6 22 yX6_loseOldest, Cond.instanceMethod yX6_loseOldest, Cond.selects RX6 yX6_loseOldest yX6_loseOldest, Cond.code yX6_loseOldest cX6_loseOldest 3 none, Cond.methodLink RX6 25 yX5_copyFrom, Cond.instanceMethod yX5_copyFrom, Cond.selects RX5 yX5_copyFrom yX5_copyFrom, Cond.code yX5_copyFrom cX5_copyFrom 2 none, Cond.fieldLink RX5 30 "SilentRent$Now" "day" "I", Cond.methodLink RX5 34 arraycopyName, Cond.native arraycopyName, Cond.static arraycopyName, Cond.initialized "java/lang/System", Cond.fieldLink RX5 15 "SilentRent$Now" "talked" "[I", Cond.fieldLink RX5 18 "SilentRent$Now" "pays" "[I", Cond.fieldLink RX5 21 "SilentRent$Now" "debt" "[I"]
def wsX8_moves : List Cond := .code yX8_moves cX8_moves 5 (some .int) :: ((wsX8_moves_r1 ++ wsX8_moves_r2) ++ wsX80 ++ wsX50 ++ wsX20 ++ wsX60)
def wsX8_talks_r1 : List Cond := [Cond.fieldLink RX8 19 "SilentRent" "built" "LSilentRent$House;", Cond.fieldLink RX8 29 "SilentRent" "now" "LSilentRent$Now;", Cond.fieldLink RX8 126 "SilentRent$Now" "talked" "[I", Cond.fieldLink RX8 117 "SilentRent$House" "wits" "[I", Cond.fieldLink RX8 36 "SilentRent" "past" "LSilentRent$Past;", Cond.fieldLink RX8 129 "SilentRent$Now" "pays" "[I", Cond.methodLink RX8 108 yX2_hasTenant, Cond.instanceMethod yX2_hasTenant, Cond.selects RX2 yX2_hasTenant yX2_hasTenant, Cond.initialized RX2, Cond.code yX2_hasTenant cX2_hasTenant 2 (some .boolean), Cond.fieldLink RX2 37 "SilentRent$House" "tenants" "I", Cond.methodLink RX8 155 yX2_freeHours, Cond.instanceMethod yX2_freeHours, Cond.selects RX2 yX2_freeHours yX2_freeHours, Cond.code yX2_freeHours cX2_freeHours 2 (some .int), Cond.fieldLink RX2 15 "SilentRent$House" "sleep" "[I", Cond.methodLink RX8 151 yX6_push, Cond.instanceMethod yX6_push, Cond.selects RX6 yX6_push yX6_push, Cond.initialized RX6, Cond.code yX6_push cX6_push 2 none, Cond.fieldLink RX6 18 "SilentRent$Past" "known" "I", Cond.fieldLink RX6 11 "SilentRent$Past" "steps" "[LSilentRent$Now;"]
def wsX8_talks_r2 : List Cond := [Cond.methodLink RX6 22 yX6_loseOldest, Cond.instanceMethod yX6_loseOldest, Cond.selects RX6 yX6_loseOldest yX6_loseOldest, Cond.code yX6_loseOldest cX6_loseOldest 3 none, Cond.methodLink RX6 25 yX5_copyFrom, Cond.instanceMethod yX5_copyFrom, Cond.selects RX5 yX5_copyFrom yX5_copyFrom, Cond.initialized RX5, Cond.code yX5_copyFrom cX5_copyFrom 2 none, Cond.fieldLink RX5 30 "SilentRent$Now" "day" "I", Cond.fieldLink RX5 9 "SilentRent$Now" "home" "[I", Cond.methodLink RX5 34 arraycopyName, Cond.native arraycopyName, Cond.static arraycopyName, Cond.initialized "java/lang/System", Cond.fieldLink RX5 15 "SilentRent$Now" "talked" "[I", Cond.fieldLink RX5 18 "SilentRent$Now" "pays" "[I", Cond.fieldLink RX5 21 "SilentRent$Now" "debt" "[I"]
def wsX8_talks : List Cond := .code yX8_talks cX8_talks 6 (some .int) :: ((wsX8_talks_r1 ++ wsX8_talks_r2) ++ wsX80 ++ wsX50 ++ wsX20 ++ wsX60)
def wsX8_evening_r1 : List Cond := [Cond.fieldLink RX8 29 "SilentRent" "now" "LSilentRent$Now;", Cond.fieldLink RX8 158 "SilentRent$Now" "day" "I", Cond.fieldLink RX8 36 "SilentRent" "past" "LSilentRent$Past;", Cond.fieldLink RX8 19 "SilentRent" "built" "LSilentRent$House;", Cond.fieldLink RX8 161 "SilentRent$House" "tenants" "I", Cond.fieldLink RX8 123 "SilentRent$Now" "home" "[I", Cond.fieldLink RX8 98 "SilentRent$House" "price" "[I", Cond.fieldLink RX8 132 "SilentRent$Now" "debt" "[I", Cond.methodLink RX8 164 Lib.Math.min.name, Cond.static Lib.Math.min.name, Cond.initialized "java/lang/Math", Cond.code Lib.Math.min.name Lib.Math.min.code 2 (some .int), Cond.methodLink RX8 170 Lib.Math.max.name, Cond.static Lib.Math.max.name, Cond.code Lib.Math.max.name Lib.Math.max.code 2 (some .int), Cond.fieldLink RX8 126 "SilentRent$Now" "talked" "[I", Cond.fieldLink RX8 129 "SilentRent$Now" "pays" "[I", Cond.methodLink RX8 151 yX6_push, Cond.instanceMethod yX6_push, Cond.selects RX6 yX6_push yX6_push, Cond.initialized RX6, Cond.code yX6_push cX6_push 2 none, Cond.fieldLink RX6 18 "SilentRent$Past" "known" "I", Cond.fieldLink RX6 11 "SilentRent$Past" "steps" "[LSilentRent$Now;"]
def wsX8_evening_r2 : List Cond := [Cond.methodLink RX6 22 yX6_loseOldest, Cond.instanceMethod yX6_loseOldest, Cond.selects RX6 yX6_loseOldest yX6_loseOldest, Cond.code yX6_loseOldest cX6_loseOldest 3 none, Cond.methodLink RX6 25 yX5_copyFrom, Cond.instanceMethod yX5_copyFrom, Cond.selects RX5 yX5_copyFrom yX5_copyFrom, Cond.initialized RX5, Cond.code yX5_copyFrom cX5_copyFrom 2 none, Cond.fieldLink RX5 30 "SilentRent$Now" "day" "I", Cond.fieldLink RX5 9 "SilentRent$Now" "home" "[I", Cond.methodLink RX5 34 arraycopyName, Cond.native arraycopyName, Cond.static arraycopyName, Cond.initialized "java/lang/System", Cond.fieldLink RX5 15 "SilentRent$Now" "talked" "[I", Cond.fieldLink RX5 18 "SilentRent$Now" "pays" "[I", Cond.fieldLink RX5 21 "SilentRent$Now" "debt" "[I", Cond.methodLink RX8 94 yX2_hasRoom, Cond.instanceMethod yX2_hasRoom, Cond.selects RX2 yX2_hasRoom yX2_hasRoom, Cond.initialized RX2, Cond.code yX2_hasRoom cX2_hasRoom 2 (some .boolean), Cond.fieldLink RX2 33 "SilentRent$House" "rooms" "I"]
def wsX8_evening_r3 : List Cond := [Cond.methodLink RX8 135 yX8_silentHours, Cond.instanceMethod yX8_silentHours, Cond.selects RX8 yX8_silentHours yX8_silentHours, Cond.initialized RX8, Cond.code yX8_silentHours cX8_silentHours 2 (some .int), Cond.methodLink RX8 155 yX2_freeHours, Cond.instanceMethod yX2_freeHours, Cond.selects RX2 yX2_freeHours yX2_freeHours, Cond.code yX2_freeHours cX2_freeHours 2 (some .int), Cond.fieldLink RX2 15 "SilentRent$House" "sleep" "[I", Cond.methodLink RX8 173 yJ7_fill_53178, Cond.static yJ7_fill_53178, Cond.initialized RJ7, Cond.code yJ7_fill_53178 cJ7_fill_53178 4 none, Cond.methodLink RX8 179 yX5_allDebts, Cond.instanceMethod yX5_allDebts, Cond.selects RX5 yX5_allDebts yX5_allDebts, Cond.code yX5_allDebts cX5_allDebts 3 (some .int)]
def wsX8_evening : List Cond := .code yX8_evening cX8_evening 3 (some .int) :: ((wsX8_evening_r1 ++ (wsX8_evening_r2 ++ wsX8_evening_r3)) ++ wsX80 ++ wsX50 ++ wsX20 ++ wsX60)
def wsX8_lends_r1 : List Cond := [Cond.fieldLink RX8 19 "SilentRent" "built" "LSilentRent$House;", Cond.fieldLink RX8 29 "SilentRent" "now" "LSilentRent$Now;", Cond.fieldLink RX8 132 "SilentRent$Now" "debt" "[I", Cond.fieldLink RX8 36 "SilentRent" "past" "LSilentRent$Past;", Cond.methodLink RX8 108 yX2_hasTenant, Cond.instanceMethod yX2_hasTenant, Cond.selects RX2 yX2_hasTenant yX2_hasTenant, Cond.initialized RX2, Cond.code yX2_hasTenant cX2_hasTenant 2 (some .boolean), Cond.fieldLink RX2 37 "SilentRent$House" "tenants" "I", Cond.methodLink RX8 151 yX6_push, Cond.instanceMethod yX6_push, Cond.selects RX6 yX6_push yX6_push, Cond.initialized RX6, Cond.code yX6_push cX6_push 2 none, Cond.fieldLink RX6 18 "SilentRent$Past" "known" "I", Cond.fieldLink RX6 11 "SilentRent$Past" "steps" "[LSilentRent$Now;", Cond.methodLink RX6 22 yX6_loseOldest, Cond.instanceMethod yX6_loseOldest, Cond.selects RX6 yX6_loseOldest yX6_loseOldest, Cond.code yX6_loseOldest cX6_loseOldest 3 none, Cond.methodLink RX6 25 yX5_copyFrom, Cond.instanceMethod yX5_copyFrom, Cond.selects RX5 yX5_copyFrom yX5_copyFrom]
def wsX8_lends_r2 : List Cond := [Cond.initialized RX5, Cond.code yX5_copyFrom cX5_copyFrom 2 none, Cond.fieldLink RX5 30 "SilentRent$Now" "day" "I", Cond.fieldLink RX5 9 "SilentRent$Now" "home" "[I", Cond.methodLink RX5 34 arraycopyName, Cond.native arraycopyName, Cond.static arraycopyName, Cond.initialized "java/lang/System", Cond.fieldLink RX5 15 "SilentRent$Now" "talked" "[I", Cond.fieldLink RX5 18 "SilentRent$Now" "pays" "[I", Cond.fieldLink RX5 21 "SilentRent$Now" "debt" "[I"]
def wsX8_lends : List Cond := .code yX8_lends cX8_lends 4 (some .int) :: ((wsX8_lends_r1 ++ wsX8_lends_r2) ++ wsX80 ++ wsX50 ++ wsX20 ++ wsX60)
def wsX8_undo : List Cond := .code yX8_undo cX8_undo 1 (some .int) :: ([.fieldLink RX8 36 "SilentRent" "past" "LSilentRent$Past;", .fieldLink RX8 86 "SilentRent$Past" "known" "I", .fieldLink RX8 29 "SilentRent" "now" "LSilentRent$Now;", .methodLink RX8 182 yX6_pop, .instanceMethod yX6_pop, .selects RX6 yX6_pop yX6_pop, .initialized RX6, .code yX6_pop cX6_pop 2 none, .fieldLink RX6 18 "SilentRent$Past" "known" "I", .fieldLink RX6 11 "SilentRent$Past" "steps" "[LSilentRent$Now;", .methodLink RX6 25 yX5_copyFrom, .instanceMethod yX5_copyFrom, .selects RX5 yX5_copyFrom yX5_copyFrom, .initialized RX5, .code yX5_copyFrom cX5_copyFrom 2 none, .fieldLink RX5 30 "SilentRent$Now" "day" "I", .fieldLink RX5 9 "SilentRent$Now" "home" "[I", .methodLink RX5 34 arraycopyName, .native arraycopyName, .static arraycopyName, .initialized "java/lang/System", .fieldLink RX5 15 "SilentRent$Now" "talked" "[I", .fieldLink RX5 18 "SilentRent$Now" "pays" "[I", .fieldLink RX5 21 "SilentRent$Now" "debt" "[I"] ++ wsX80 ++ wsX60 ++ wsX50)
def wsX8_dwellers : List Cond := .code yX8_dwellers cX8_dwellers 3 (some .int) :: ([.fieldLink RX8 19 "SilentRent" "built" "LSilentRent$House;", .fieldLink RX8 161 "SilentRent$House" "tenants" "I", .fieldLink RX8 29 "SilentRent" "now" "LSilentRent$Now;", .fieldLink RX8 123 "SilentRent$Now" "home" "[I"] ++ wsX80 ++ wsX20 ++ wsX50)
def wsX8_emptyRooms : List Cond := .code yX8_emptyRooms cX8_emptyRooms 3 (some .int) :: ([.fieldLink RX8 19 "SilentRent" "built" "LSilentRent$House;", .fieldLink RX8 194 "SilentRent$House" "rooms" "I", .fieldLink RX8 29 "SilentRent" "now" "LSilentRent$Now;", .methodLink RX8 101 yX5_dweller, .instanceMethod yX5_dweller, .selects RX5 yX5_dweller yX5_dweller, .initialized RX5, .code yX5_dweller cX5_dweller 3 (some .int), .fieldLink RX5 9 "SilentRent$Now" "home" "[I"] ++ wsX80 ++ wsX20 ++ wsX50)
def wsX8_spareHours : List Cond := .code yX8_spareHours cX8_spareHours 3 (some .int) :: ([.fieldLink RX8 29 "SilentRent" "now" "LSilentRent$Now;", .fieldLink RX8 123 "SilentRent$Now" "home" "[I", .fieldLink RX8 19 "SilentRent" "built" "LSilentRent$House;", .fieldLink RX8 98 "SilentRent$House" "price" "[I", .methodLink RX8 94 yX2_hasRoom, .instanceMethod yX2_hasRoom, .selects RX2 yX2_hasRoom yX2_hasRoom, .initialized RX2, .code yX2_hasRoom cX2_hasRoom 2 (some .boolean), .fieldLink RX2 33 "SilentRent$House" "rooms" "I", .methodLink RX8 232 yX2_keepsSilent, .instanceMethod yX2_keepsSilent, .selects RX2 yX2_keepsSilent yX2_keepsSilent, .code yX2_keepsSilent cX2_keepsSilent 2 (some .int), .fieldLink RX2 18 "SilentRent$House" "must" "[I", .methodLink RX2 43 yX2_freeHours, .instanceMethod yX2_freeHours, .selects RX2 yX2_freeHours yX2_freeHours, .code yX2_freeHours cX2_freeHours 2 (some .int), .fieldLink RX2 15 "SilentRent$House" "sleep" "[I"] ++ wsX80 ++ wsX50 ++ wsX20)
def wsX8_lackingDwellers_r1 : List Cond := [Cond.fieldLink RX8 19 "SilentRent" "built" "LSilentRent$House;", Cond.fieldLink RX8 161 "SilentRent$House" "tenants" "I", Cond.methodLink RX8 197 yX8_spareHours, Cond.instanceMethod yX8_spareHours, Cond.selects RX8 yX8_spareHours yX8_spareHours, Cond.initialized RX8, Cond.code yX8_spareHours cX8_spareHours 3 (some .int), Cond.fieldLink RX8 29 "SilentRent" "now" "LSilentRent$Now;", Cond.fieldLink RX8 123 "SilentRent$Now" "home" "[I", Cond.fieldLink RX8 98 "SilentRent$House" "price" "[I", Cond.methodLink RX8 94 yX2_hasRoom, Cond.instanceMethod yX2_hasRoom, Cond.selects RX2 yX2_hasRoom yX2_hasRoom, Cond.initialized RX2, Cond.code yX2_hasRoom cX2_hasRoom 2 (some .boolean), Cond.fieldLink RX2 33 "SilentRent$House" "rooms" "I", Cond.methodLink RX8 232 yX2_keepsSilent, Cond.instanceMethod yX2_keepsSilent, Cond.selects RX2 yX2_keepsSilent yX2_keepsSilent, Cond.code yX2_keepsSilent cX2_keepsSilent 2 (some .int), Cond.fieldLink RX2 18 "SilentRent$House" "must" "[I", Cond.methodLink RX2 43 yX2_freeHours, Cond.instanceMethod yX2_freeHours, Cond.selects RX2 yX2_freeHours yX2_freeHours]
def wsX8_lackingDwellers_r2 : List Cond := [Cond.code yX2_freeHours cX2_freeHours 2 (some .int), Cond.fieldLink RX2 15 "SilentRent$House" "sleep" "[I"]
def wsX8_lackingDwellers : List Cond := .code yX8_lackingDwellers cX8_lackingDwellers 3 (some .int) :: ((wsX8_lackingDwellers_r1 ++ wsX8_lackingDwellers_r2) ++ wsX80 ++ wsX20 ++ wsX50)
def wsX8_now_r1 : List Cond := [Cond.fieldLink RX8 29 "SilentRent" "now" "LSilentRent$Now;", Cond.fieldLink RX8 158 "SilentRent$Now" "day" "I", Cond.methodLink RX8 179 yX5_allDebts, Cond.instanceMethod yX5_allDebts, Cond.selects RX5 yX5_allDebts yX5_allDebts, Cond.initialized RX5, Cond.code yX5_allDebts cX5_allDebts 3 (some .int), Cond.fieldLink RX5 21 "SilentRent$Now" "debt" "[I", Cond.methodLink RX8 185 yX8_dwellers, Cond.instanceMethod yX8_dwellers, Cond.selects RX8 yX8_dwellers yX8_dwellers, Cond.initialized RX8, Cond.code yX8_dwellers cX8_dwellers 3 (some .int), Cond.fieldLink RX8 19 "SilentRent" "built" "LSilentRent$House;", Cond.fieldLink RX8 161 "SilentRent$House" "tenants" "I", Cond.fieldLink RX8 123 "SilentRent$Now" "home" "[I", Cond.methodLink RX8 188 yX8_emptyRooms, Cond.instanceMethod yX8_emptyRooms, Cond.selects RX8 yX8_emptyRooms yX8_emptyRooms, Cond.code yX8_emptyRooms cX8_emptyRooms 3 (some .int), Cond.fieldLink RX8 194 "SilentRent$House" "rooms" "I", Cond.methodLink RX8 101 yX5_dweller, Cond.instanceMethod yX5_dweller, Cond.selects RX5 yX5_dweller yX5_dweller]
def wsX8_now_r2 : List Cond := [Cond.code yX5_dweller cX5_dweller 3 (some .int), Cond.fieldLink RX5 9 "SilentRent$Now" "home" "[I", Cond.methodLink RX8 191 yX8_lackingDwellers, Cond.instanceMethod yX8_lackingDwellers, Cond.selects RX8 yX8_lackingDwellers yX8_lackingDwellers, Cond.code yX8_lackingDwellers cX8_lackingDwellers 3 (some .int), Cond.methodLink RX8 197 yX8_spareHours, Cond.instanceMethod yX8_spareHours, Cond.selects RX8 yX8_spareHours yX8_spareHours, Cond.code yX8_spareHours cX8_spareHours 3 (some .int), Cond.fieldLink RX8 98 "SilentRent$House" "price" "[I", Cond.methodLink RX8 94 yX2_hasRoom, Cond.instanceMethod yX2_hasRoom, Cond.selects RX2 yX2_hasRoom yX2_hasRoom, Cond.initialized RX2, Cond.code yX2_hasRoom cX2_hasRoom 2 (some .boolean), Cond.fieldLink RX2 33 "SilentRent$House" "rooms" "I", Cond.methodLink RX8 232 yX2_keepsSilent, Cond.instanceMethod yX2_keepsSilent, Cond.selects RX2 yX2_keepsSilent yX2_keepsSilent, Cond.code yX2_keepsSilent cX2_keepsSilent 2 (some .int), Cond.fieldLink RX2 18 "SilentRent$House" "must" "[I", Cond.methodLink RX2 43 yX2_freeHours, Cond.instanceMethod yX2_freeHours]
def wsX8_now_r3 : List Cond := [Cond.selects RX2 yX2_freeHours yX2_freeHours, Cond.code yX2_freeHours cX2_freeHours 2 (some .int), Cond.fieldLink RX2 15 "SilentRent$House" "sleep" "[I"]
def wsX8_now : List Cond := .code yX8_now cX8_now 2 (some .int) :: ((wsX8_now_r1 ++ (wsX8_now_r2 ++ wsX8_now_r3)) ++ wsX80 ++ wsX50 ++ wsX20)
def wsX8_housed_r1 : List Cond := [Cond.fieldLink RX8 19 "SilentRent" "built" "LSilentRent$House;", Cond.fieldLink RX8 161 "SilentRent$House" "tenants" "I", Cond.fieldLink RX8 56 "SilentRent" "housing" "LSilentRent$Housing;", Cond.fieldLink RX8 210 "SilentRent$Housing" "home" "[I", Cond.methodLink RX8 200 yX3_solve, Cond.instanceMethod yX3_solve, Cond.selects RX3 yX3_solve yX3_solve, Cond.initialized RX3, Cond.code yX3_solve cX3_solve 4 none, Cond.fieldLink RX3 17 "SilentRent$Housing" "best" "[[I", Cond.fieldLink RX3 20 "SilentRent$House" "tenants" "I", Cond.fieldLink RX3 32 "SilentRent$House" "rooms" "I", Cond.fieldLink RX3 9 "SilentRent$Housing" "home" "[I", Cond.methodLink RX3 26 yJ7_fill_53178, Cond.static yJ7_fill_53178, Cond.initialized RJ7, Cond.code yJ7_fill_53178 cJ7_fill_53178 4 none, Cond.methodLink RX3 35 yX3_mostFrom, Cond.instanceMethod yX3_mostFrom, Cond.selects RX3 yX3_mostFrom yX3_mostFrom, Cond.code yX3_mostFrom cX3_mostFrom 6 (some .int), Cond.methodLink RX3 57 Lib.Math.max.name, Cond.static Lib.Math.max.name, Cond.initialized "java/lang/Math"]
def wsX8_housed_r2 : List Cond := [Cond.code Lib.Math.max.name Lib.Math.max.code 2 (some .int), Cond.methodLink RX3 49 yX3_canTake, Cond.instanceMethod yX3_canTake, Cond.selects RX3 yX3_canTake yX3_canTake, Cond.code yX3_canTake cX3_canTake 5 (some .boolean), Cond.methodLink RX3 63 yX2_meets, Cond.instanceMethod yX2_meets, Cond.selects RX2 yX2_meets yX2_meets, Cond.initialized RX2, Cond.code yX2_meets cX2_meets 3 (some .boolean), Cond.fieldLink RX2 9 "SilentRent$House" "price" "[I", Cond.methodLink RX2 47 yX2_keepsSilent, Cond.instanceMethod yX2_keepsSilent, Cond.selects RX2 yX2_keepsSilent yX2_keepsSilent, Cond.code yX2_keepsSilent cX2_keepsSilent 2 (some .int), Cond.fieldLink RX2 18 "SilentRent$House" "must" "[I", Cond.methodLink RX2 43 yX2_freeHours, Cond.instanceMethod yX2_freeHours, Cond.selects RX2 yX2_freeHours yX2_freeHours, Cond.code yX2_freeHours cX2_freeHours 2 (some .int), Cond.fieldLink RX2 15 "SilentRent$House" "sleep" "[I", Cond.methodLink RX3 53 yX3_withRoom, Cond.instanceMethod yX3_withRoom, Cond.selects RX3 yX3_withRoom yX3_withRoom]
def wsX8_housed_r3 : List Cond := [Cond.code yX3_withRoom cX3_withRoom 5 (some .int), Cond.fieldLink RX3 46 "SilentRent$House" "price" "[I", Cond.methodLink RX3 39 yX3_firstOfBest, Cond.instanceMethod yX3_firstOfBest, Cond.selects RX3 yX3_firstOfBest yX3_firstOfBest, Cond.code yX3_firstOfBest cX3_firstOfBest 5 (some .int), Cond.methodLink RX8 204 yX3_howMany, Cond.instanceMethod yX3_howMany, Cond.selects RX3 yX3_howMany yX3_howMany, Cond.code yX3_howMany cX3_howMany 4 (some .int), Cond.methodLink RX8 207 yX3_prices, Cond.instanceMethod yX3_prices, Cond.selects RX3 yX3_prices yX3_prices, Cond.code yX3_prices cX3_prices 4 (some .int), Cond.methodLink RX3 42 yX2_hasRoom, Cond.instanceMethod yX2_hasRoom, Cond.selects RX2 yX2_hasRoom yX2_hasRoom, Cond.code yX2_hasRoom cX2_hasRoom 2 (some .boolean), Cond.fieldLink RX2 33 "SilentRent$House" "rooms" "I"]
def wsX8_housed : List Cond := .code yX8_housed cX8_housed 2 (some .int) :: ((wsX8_housed_r1 ++ (wsX8_housed_r2 ++ wsX8_housed_r3)) ++ wsX80 ++ wsX20 ++ wsX30)
def wsX8_crowd_r1 : List Cond := [Cond.fieldLink RX8 19 "SilentRent" "built" "LSilentRent$House;", Cond.methodLink RX8 147 yX2_everybody, Cond.instanceMethod yX2_everybody, Cond.selects RX2 yX2_everybody yX2_everybody, Cond.initialized RX2, Cond.code yX2_everybody cX2_everybody 1 (some .int), Cond.fieldLink RX2 37 "SilentRent$House" "tenants" "I", Cond.methodLink RX8 211 yJ6_bitCount_0f7a4, Cond.static yJ6_bitCount_0f7a4, Cond.initialized RJ6, Cond.code yJ6_bitCount_0f7a4 cJ6_bitCount_0f7a4 1 (some .int), Cond.constant RJ6 265 (1431655765), Cond.constant RJ6 266 (858993459), Cond.constant RJ6 267 (252645135), Cond.methodLink RX8 216 yX2_roomsMetBy, Cond.instanceMethod yX2_roomsMetBy, Cond.selects RX2 yX2_roomsMetBy yX2_roomsMetBy, Cond.code yX2_roomsMetBy cX2_roomsMetBy 4 (some .int), Cond.fieldLink RX2 33 "SilentRent$House" "rooms" "I", Cond.methodLink RX2 54 yX2_whoMeets, Cond.instanceMethod yX2_whoMeets, Cond.selects RX2 yX2_whoMeets yX2_whoMeets, Cond.code yX2_whoMeets cX2_whoMeets 4 (some .int), Cond.methodLink RX2 50 yX2_meets]
def wsX8_crowd_r2 : List Cond := [Cond.instanceMethod yX2_meets, Cond.selects RX2 yX2_meets yX2_meets, Cond.code yX2_meets cX2_meets 3 (some .boolean), Cond.fieldLink RX2 9 "SilentRent$House" "price" "[I", Cond.methodLink RX2 47 yX2_keepsSilent, Cond.instanceMethod yX2_keepsSilent, Cond.selects RX2 yX2_keepsSilent yX2_keepsSilent, Cond.code yX2_keepsSilent cX2_keepsSilent 2 (some .int), Cond.fieldLink RX2 18 "SilentRent$House" "must" "[I", Cond.methodLink RX2 43 yX2_freeHours, Cond.instanceMethod yX2_freeHours, Cond.selects RX2 yX2_freeHours yX2_freeHours, Cond.code yX2_freeHours cX2_freeHours 2 (some .int), Cond.fieldLink RX2 15 "SilentRent$House" "sleep" "[I"]
def wsX8_crowd : List Cond := .code yX8_crowd cX8_crowd 5 (some .int) :: ((wsX8_crowd_r1 ++ wsX8_crowd_r2) ++ wsX80 ++ wsX20)
def wsX8_spare_r1 : List Cond := [Cond.fieldLink RX8 19 "SilentRent" "built" "LSilentRent$House;", Cond.constant RX8 219 (-1000000), Cond.methodLink RX8 108 yX2_hasTenant, Cond.instanceMethod yX2_hasTenant, Cond.selects RX2 yX2_hasTenant yX2_hasTenant, Cond.initialized RX2, Cond.code yX2_hasTenant cX2_hasTenant 2 (some .boolean), Cond.fieldLink RX2 37 "SilentRent$House" "tenants" "I", Cond.methodLink RX8 197 yX8_spareHours, Cond.instanceMethod yX8_spareHours, Cond.selects RX8 yX8_spareHours yX8_spareHours, Cond.initialized RX8, Cond.code yX8_spareHours cX8_spareHours 3 (some .int), Cond.fieldLink RX8 29 "SilentRent" "now" "LSilentRent$Now;", Cond.fieldLink RX8 123 "SilentRent$Now" "home" "[I", Cond.fieldLink RX8 98 "SilentRent$House" "price" "[I", Cond.methodLink RX8 94 yX2_hasRoom, Cond.instanceMethod yX2_hasRoom, Cond.selects RX2 yX2_hasRoom yX2_hasRoom, Cond.code yX2_hasRoom cX2_hasRoom 2 (some .boolean), Cond.fieldLink RX2 33 "SilentRent$House" "rooms" "I", Cond.methodLink RX8 232 yX2_keepsSilent, Cond.instanceMethod yX2_keepsSilent, Cond.selects RX2 yX2_keepsSilent yX2_keepsSilent]
def wsX8_spare_r2 : List Cond := [Cond.code yX2_keepsSilent cX2_keepsSilent 2 (some .int), Cond.fieldLink RX2 18 "SilentRent$House" "must" "[I", Cond.methodLink RX2 43 yX2_freeHours, Cond.instanceMethod yX2_freeHours, Cond.selects RX2 yX2_freeHours yX2_freeHours, Cond.code yX2_freeHours cX2_freeHours 2 (some .int), Cond.fieldLink RX2 15 "SilentRent$House" "sleep" "[I"]
def wsX8_spare : List Cond := .code yX8_spare cX8_spare 2 (some .int) :: ((wsX8_spare_r1 ++ wsX8_spare_r2) ++ wsX80 ++ wsX20 ++ wsX50)
def wsX8_hoursForSale_r1 : List Cond := [Cond.fieldLink RX8 19 "SilentRent" "built" "LSilentRent$House;", Cond.fieldLink RX8 161 "SilentRent$House" "tenants" "I", Cond.fieldLink RX8 120 "SilentRent$House" "asks" "[I", Cond.methodLink RX8 170 Lib.Math.max.name, Cond.static Lib.Math.max.name, Cond.initialized "java/lang/Math", Cond.code Lib.Math.max.name Lib.Math.max.code 2 (some .int), Cond.methodLink RX8 197 yX8_spareHours, Cond.instanceMethod yX8_spareHours, Cond.selects RX8 yX8_spareHours yX8_spareHours, Cond.initialized RX8, Cond.code yX8_spareHours cX8_spareHours 3 (some .int), Cond.fieldLink RX8 29 "SilentRent" "now" "LSilentRent$Now;", Cond.fieldLink RX8 123 "SilentRent$Now" "home" "[I", Cond.fieldLink RX8 98 "SilentRent$House" "price" "[I", Cond.methodLink RX8 94 yX2_hasRoom, Cond.instanceMethod yX2_hasRoom, Cond.selects RX2 yX2_hasRoom yX2_hasRoom, Cond.initialized RX2, Cond.code yX2_hasRoom cX2_hasRoom 2 (some .boolean), Cond.fieldLink RX2 33 "SilentRent$House" "rooms" "I", Cond.methodLink RX8 232 yX2_keepsSilent, Cond.instanceMethod yX2_keepsSilent, Cond.selects RX2 yX2_keepsSilent yX2_keepsSilent]
def wsX8_hoursForSale_r2 : List Cond := [Cond.code yX2_keepsSilent cX2_keepsSilent 2 (some .int), Cond.fieldLink RX2 18 "SilentRent$House" "must" "[I", Cond.methodLink RX2 43 yX2_freeHours, Cond.instanceMethod yX2_freeHours, Cond.selects RX2 yX2_freeHours yX2_freeHours, Cond.code yX2_freeHours cX2_freeHours 2 (some .int), Cond.fieldLink RX2 15 "SilentRent$House" "sleep" "[I"]
def wsX8_hoursForSale : List Cond := .code yX8_hoursForSale cX8_hoursForSale 4 (some .int) :: ((wsX8_hoursForSale_r1 ++ wsX8_hoursForSale_r2) ++ wsX80 ++ wsX20 ++ wsX50)
def wsX8_hoursBought_r1 : List Cond := [Cond.fieldLink RX8 19 "SilentRent" "built" "LSilentRent$House;", Cond.fieldLink RX8 161 "SilentRent$House" "tenants" "I", Cond.fieldLink RX8 120 "SilentRent$House" "asks" "[I", Cond.methodLink RX8 170 Lib.Math.max.name, Cond.static Lib.Math.max.name, Cond.initialized "java/lang/Math", Cond.code Lib.Math.max.name Lib.Math.max.code 2 (some .int), Cond.methodLink RX8 197 yX8_spareHours, Cond.instanceMethod yX8_spareHours, Cond.selects RX8 yX8_spareHours yX8_spareHours, Cond.initialized RX8, Cond.code yX8_spareHours cX8_spareHours 3 (some .int), Cond.fieldLink RX8 29 "SilentRent" "now" "LSilentRent$Now;", Cond.fieldLink RX8 123 "SilentRent$Now" "home" "[I", Cond.fieldLink RX8 98 "SilentRent$House" "price" "[I", Cond.methodLink RX8 94 yX2_hasRoom, Cond.instanceMethod yX2_hasRoom, Cond.selects RX2 yX2_hasRoom yX2_hasRoom, Cond.initialized RX2, Cond.code yX2_hasRoom cX2_hasRoom 2 (some .boolean), Cond.fieldLink RX2 33 "SilentRent$House" "rooms" "I", Cond.methodLink RX8 232 yX2_keepsSilent, Cond.instanceMethod yX2_keepsSilent, Cond.selects RX2 yX2_keepsSilent yX2_keepsSilent]
def wsX8_hoursBought_r2 : List Cond := [Cond.code yX2_keepsSilent cX2_keepsSilent 2 (some .int), Cond.fieldLink RX2 18 "SilentRent$House" "must" "[I", Cond.methodLink RX2 43 yX2_freeHours, Cond.instanceMethod yX2_freeHours, Cond.selects RX2 yX2_freeHours yX2_freeHours, Cond.code yX2_freeHours cX2_freeHours 2 (some .int), Cond.fieldLink RX2 15 "SilentRent$House" "sleep" "[I"]
def wsX8_hoursBought : List Cond := .code yX8_hoursBought cX8_hoursBought 4 (some .int) :: ((wsX8_hoursBought_r1 ++ wsX8_hoursBought_r2) ++ wsX80 ++ wsX20 ++ wsX50)
def wsX8_rest_r1 : List Cond := [Cond.methodLink RX8 220 yX8_hoursForSale, Cond.instanceMethod yX8_hoursForSale, Cond.selects RX8 yX8_hoursForSale yX8_hoursForSale, Cond.initialized RX8, Cond.code yX8_hoursForSale cX8_hoursForSale 4 (some .int), Cond.fieldLink RX8 19 "SilentRent" "built" "LSilentRent$House;", Cond.fieldLink RX8 161 "SilentRent$House" "tenants" "I", Cond.fieldLink RX8 120 "SilentRent$House" "asks" "[I", Cond.methodLink RX8 170 Lib.Math.max.name, Cond.static Lib.Math.max.name, Cond.initialized "java/lang/Math", Cond.code Lib.Math.max.name Lib.Math.max.code 2 (some .int), Cond.methodLink RX8 197 yX8_spareHours, Cond.instanceMethod yX8_spareHours, Cond.selects RX8 yX8_spareHours yX8_spareHours, Cond.code yX8_spareHours cX8_spareHours 3 (some .int), Cond.fieldLink RX8 29 "SilentRent" "now" "LSilentRent$Now;", Cond.fieldLink RX8 123 "SilentRent$Now" "home" "[I", Cond.fieldLink RX8 98 "SilentRent$House" "price" "[I", Cond.methodLink RX8 94 yX2_hasRoom, Cond.instanceMethod yX2_hasRoom, Cond.selects RX2 yX2_hasRoom yX2_hasRoom, Cond.initialized RX2, Cond.code yX2_hasRoom cX2_hasRoom 2 (some .boolean)]
def wsX8_rest_r2 : List Cond := [Cond.fieldLink RX2 33 "SilentRent$House" "rooms" "I", Cond.methodLink RX8 232 yX2_keepsSilent, Cond.instanceMethod yX2_keepsSilent, Cond.selects RX2 yX2_keepsSilent yX2_keepsSilent, Cond.code yX2_keepsSilent cX2_keepsSilent 2 (some .int), Cond.fieldLink RX2 18 "SilentRent$House" "must" "[I", Cond.methodLink RX2 43 yX2_freeHours, Cond.instanceMethod yX2_freeHours, Cond.selects RX2 yX2_freeHours yX2_freeHours, Cond.code yX2_freeHours cX2_freeHours 2 (some .int), Cond.fieldLink RX2 15 "SilentRent$House" "sleep" "[I", Cond.methodLink RX8 223 yX8_hoursBought, Cond.instanceMethod yX8_hoursBought, Cond.selects RX8 yX8_hoursBought yX8_hoursBought, Cond.code yX8_hoursBought cX8_hoursBought 4 (some .int)]
def wsX8_rest : List Cond := .code yX8_rest cX8_rest 3 (some .int) :: ((wsX8_rest_r1 ++ wsX8_rest_r2) ++ wsX80 ++ wsX20 ++ wsX50)
def wsX8_lackingShare : List Cond := .code yX8_lackingShare cX8_lackingShare 5 (some .int) :: ([.fieldLink RX8 29 "SilentRent" "now" "LSilentRent$Now;", .fieldLink RX8 19 "SilentRent" "built" "LSilentRent$House;", .fieldLink RX8 161 "SilentRent$House" "tenants" "I", .fieldLink RX8 132 "SilentRent$Now" "debt" "[I", .methodLink RX8 179 yX5_allDebts, .instanceMethod yX5_allDebts, .selects RX5 yX5_allDebts yX5_allDebts, .initialized RX5, .code yX5_allDebts cX5_allDebts 3 (some .int), .fieldLink RX5 21 "SilentRent$Now" "debt" "[I"] ++ wsX80 ++ wsX20 ++ wsX50)
def wsX8_mostGroups : List Cond := .code yX8_mostGroups cX8_mostGroups 6 (some .int) :: ([.fieldLink RX8 67 "SilentRent" "groups" "[I", .fieldLink RX8 19 "SilentRent" "built" "LSilentRent$House;", .fieldLink RX8 161 "SilentRent$House" "tenants" "I", .methodLink RX8 170 Lib.Math.max.name, .static Lib.Math.max.name, .initialized "java/lang/Math", .code Lib.Math.max.name Lib.Math.max.code 2 (some .int), .methodLink RX8 226 yX8_lackingShare, .instanceMethod yX8_lackingShare, .selects RX8 yX8_lackingShare yX8_lackingShare, .initialized RX8, .code yX8_lackingShare cX8_lackingShare 5 (some .int), .fieldLink RX8 29 "SilentRent" "now" "LSilentRent$Now;", .fieldLink RX8 132 "SilentRent$Now" "debt" "[I", .methodLink RX8 179 yX5_allDebts, .instanceMethod yX5_allDebts, .selects RX5 yX5_allDebts yX5_allDebts, .initialized RX5, .code yX5_allDebts cX5_allDebts 3 (some .int), .fieldLink RX5 21 "SilentRent$Now" "debt" "[I"] ++ wsX80 ++ wsX20 ++ wsX50)
def wsX8_payments_r1 : List Cond := [Cond.fieldLink RX8 19 "SilentRent" "built" "LSilentRent$House;", Cond.fieldLink RX8 161 "SilentRent$House" "tenants" "I", Cond.methodLink RX8 226 yX8_lackingShare, Cond.instanceMethod yX8_lackingShare, Cond.selects RX8 yX8_lackingShare yX8_lackingShare, Cond.initialized RX8, Cond.code yX8_lackingShare cX8_lackingShare 5 (some .int), Cond.fieldLink RX8 29 "SilentRent" "now" "LSilentRent$Now;", Cond.fieldLink RX8 132 "SilentRent$Now" "debt" "[I", Cond.methodLink RX8 179 yX5_allDebts, Cond.instanceMethod yX5_allDebts, Cond.selects RX5 yX5_allDebts yX5_allDebts, Cond.initialized RX5, Cond.code yX5_allDebts cX5_allDebts 3 (some .int), Cond.fieldLink RX5 21 "SilentRent$Now" "debt" "[I", Cond.methodLink RX8 211 yJ6_bitCount_0f7a4, Cond.static yJ6_bitCount_0f7a4, Cond.initialized RJ6, Cond.code yJ6_bitCount_0f7a4 cJ6_bitCount_0f7a4 1 (some .int), Cond.constant RJ6 265 (1431655765), Cond.constant RJ6 266 (858993459), Cond.constant RJ6 267 (252645135), Cond.methodLink RX8 229 yX8_mostGroups, Cond.instanceMethod yX8_mostGroups]
def wsX8_payments_r2 : List Cond := [Cond.selects RX8 yX8_mostGroups yX8_mostGroups, Cond.code yX8_mostGroups cX8_mostGroups 6 (some .int), Cond.fieldLink RX8 67 "SilentRent" "groups" "[I", Cond.methodLink RX8 170 Lib.Math.max.name, Cond.static Lib.Math.max.name, Cond.initialized "java/lang/Math", Cond.code Lib.Math.max.name Lib.Math.max.code 2 (some .int)]
def wsX8_payments : List Cond := .code yX8_payments cX8_payments 3 (some .int) :: ((wsX8_payments_r1 ++ wsX8_payments_r2) ++ wsX80 ++ wsX20 ++ wsX50)
def wsX8_settled : List Cond := .code yX8_settled cX8_settled 2 (some .int) :: ([.fieldLink RX8 19 "SilentRent" "built" "LSilentRent$House;", .constant RX8 219 (-1000000), .methodLink RX8 108 yX2_hasTenant, .instanceMethod yX2_hasTenant, .selects RX2 yX2_hasTenant yX2_hasTenant, .initialized RX2, .code yX2_hasTenant cX2_hasTenant 2 (some .boolean), .fieldLink RX2 37 "SilentRent$House" "tenants" "I", .methodLink RX8 226 yX8_lackingShare, .instanceMethod yX8_lackingShare, .selects RX8 yX8_lackingShare yX8_lackingShare, .initialized RX8, .code yX8_lackingShare cX8_lackingShare 5 (some .int), .fieldLink RX8 29 "SilentRent" "now" "LSilentRent$Now;", .fieldLink RX8 161 "SilentRent$House" "tenants" "I", .fieldLink RX8 132 "SilentRent$Now" "debt" "[I", .methodLink RX8 179 yX5_allDebts, .instanceMethod yX5_allDebts, .selects RX5 yX5_allDebts yX5_allDebts, .initialized RX5, .code yX5_allDebts cX5_allDebts 3 (some .int), .fieldLink RX5 21 "SilentRent$Now" "debt" "[I"] ++ wsX80 ++ wsX20 ++ wsX50)
def wsX8_allKnow : List Cond := .code yX8_allKnow cX8_allKnow 5 (some .boolean) :: ([.fieldLink RX8 19 "SilentRent" "built" "LSilentRent$House;", .fieldLink RX8 161 "SilentRent$House" "tenants" "I", .methodLink RX8 239 yX2_hearers, .instanceMethod yX2_hearers, .selects RX2 yX2_hearers yX2_hearers, .initialized RX2, .code yX2_hearers cX2_hearers 4 (some .int), .fieldLink RX2 37 "SilentRent$House" "tenants" "I", .fieldLink RX2 27 "SilentRent$House" "hears" "[I", .methodLink RX8 147 yX2_everybody, .instanceMethod yX2_everybody, .selects RX2 yX2_everybody yX2_everybody, .code yX2_everybody cX2_everybody 1 (some .int)] ++ wsX80 ++ wsX20)
def wsX8_told_r1 : List Cond := [Cond.fieldLink RX8 19 "SilentRent" "built" "LSilentRent$House;", Cond.methodLink RX8 108 yX2_hasTenant, Cond.instanceMethod yX2_hasTenant, Cond.selects RX2 yX2_hasTenant yX2_hasTenant, Cond.initialized RX2, Cond.code yX2_hasTenant cX2_hasTenant 2 (some .boolean), Cond.fieldLink RX2 37 "SilentRent$House" "tenants" "I", Cond.methodLink RX8 147 yX2_everybody, Cond.instanceMethod yX2_everybody, Cond.selects RX2 yX2_everybody yX2_everybody, Cond.code yX2_everybody cX2_everybody 1 (some .int), Cond.methodLink RX8 211 yJ6_bitCount_0f7a4, Cond.static yJ6_bitCount_0f7a4, Cond.initialized RJ6, Cond.code yJ6_bitCount_0f7a4 cJ6_bitCount_0f7a4 1 (some .int), Cond.constant RJ6 265 (1431655765), Cond.constant RJ6 266 (858993459), Cond.constant RJ6 267 (252645135), Cond.methodLink RX8 235 yX8_allKnow, Cond.instanceMethod yX8_allKnow, Cond.selects RX8 yX8_allKnow yX8_allKnow, Cond.initialized RX8, Cond.code yX8_allKnow cX8_allKnow 5 (some .boolean), Cond.fieldLink RX8 161 "SilentRent$House" "tenants" "I"]
def wsX8_told_r2 : List Cond := [Cond.methodLink RX8 239 yX2_hearers, Cond.instanceMethod yX2_hearers, Cond.selects RX2 yX2_hearers yX2_hearers, Cond.code yX2_hearers cX2_hearers 4 (some .int), Cond.fieldLink RX2 27 "SilentRent$House" "hears" "[I"]
def wsX8_told : List Cond := .code yX8_told cX8_told 6 (some .int) :: ((wsX8_told_r1 ++ wsX8_told_r2) ++ wsX80 ++ wsX20)
def wsX8_rounds : List Cond := .code yX8_rounds cX8_rounds 4 (some .int) :: ([.fieldLink RX8 19 "SilentRent" "built" "LSilentRent$House;", .fieldLink RX8 161 "SilentRent$House" "tenants" "I", .methodLink RX8 108 yX2_hasTenant, .instanceMethod yX2_hasTenant, .selects RX2 yX2_hasTenant yX2_hasTenant, .initialized RX2, .code yX2_hasTenant cX2_hasTenant 2 (some .boolean), .fieldLink RX2 37 "SilentRent$House" "tenants" "I", .methodLink RX8 147 yX2_everybody, .instanceMethod yX2_everybody, .selects RX2 yX2_everybody yX2_everybody, .code yX2_everybody cX2_everybody 1 (some .int), .methodLink RX8 239 yX2_hearers, .instanceMethod yX2_hearers, .selects RX2 yX2_hearers yX2_hearers, .code yX2_hearers cX2_hearers 4 (some .int), .fieldLink RX2 27 "SilentRent$House" "hears" "[I"] ++ wsX80 ++ wsX20)
def wsX8_watch : List Cond := .code yX8_watch cX8_watch 6 (some .int) :: ([.fieldLink RX8 19 "SilentRent" "built" "LSilentRent$House;", .fieldLink RX8 242 "SilentRent$House" "chairs" "I", .methodLink RX8 147 yX2_everybody, .instanceMethod yX2_everybody, .selects RX2 yX2_everybody yX2_everybody, .initialized RX2, .code yX2_everybody cX2_everybody 1 (some .int), .fieldLink RX2 37 "SilentRent$House" "tenants" "I", .methodLink RX8 211 yJ6_bitCount_0f7a4, .static yJ6_bitCount_0f7a4, .initialized RJ6, .code yJ6_bitCount_0f7a4 cJ6_bitCount_0f7a4 1 (some .int), .constant RJ6 265 (1431655765), .constant RJ6 266 (858993459), .constant RJ6 267 (252645135), .methodLink RX8 245 yX2_seenFrom, .instanceMethod yX2_seenFrom, .selects RX2 yX2_seenFrom yX2_seenFrom, .code yX2_seenFrom cX2_seenFrom 4 (some .int), .fieldLink RX2 40 "SilentRent$House" "chairs" "I", .fieldLink RX2 30 "SilentRent$House" "lips" "[I"] ++ wsX80 ++ wsX20)
def wsX8_commonDivisor : List Cond := .code yX8_commonDivisor cX8_commonDivisor 7 (some .long) :: ([])
def wsX8_odds_r1 : List Cond := [Cond.constantLong RX8 248 (-1), Cond.fieldLink RX8 19 "SilentRent" "built" "LSilentRent$House;", Cond.fieldLink RX8 161 "SilentRent$House" "tenants" "I", Cond.fieldLink RX8 29 "SilentRent" "now" "LSilentRent$Now;", Cond.fieldLink RX8 123 "SilentRent$Now" "home" "[I", Cond.constantLong RX8 250 (10), Cond.methodLink RX8 197 yX8_spareHours, Cond.instanceMethod yX8_spareHours, Cond.selects RX8 yX8_spareHours yX8_spareHours, Cond.initialized RX8, Cond.code yX8_spareHours cX8_spareHours 3 (some .int), Cond.fieldLink RX8 98 "SilentRent$House" "price" "[I", Cond.methodLink RX8 94 yX2_hasRoom, Cond.instanceMethod yX2_hasRoom, Cond.selects RX2 yX2_hasRoom yX2_hasRoom, Cond.initialized RX2, Cond.code yX2_hasRoom cX2_hasRoom 2 (some .boolean), Cond.fieldLink RX2 33 "SilentRent$House" "rooms" "I", Cond.methodLink RX8 232 yX2_keepsSilent, Cond.instanceMethod yX2_keepsSilent, Cond.selects RX2 yX2_keepsSilent yX2_keepsSilent, Cond.code yX2_keepsSilent cX2_keepsSilent 2 (some .int), Cond.fieldLink RX2 18 "SilentRent$House" "must" "[I", Cond.methodLink RX2 43 yX2_freeHours]
def wsX8_odds_r2 : List Cond := [Cond.instanceMethod yX2_freeHours, Cond.selects RX2 yX2_freeHours yX2_freeHours, Cond.code yX2_freeHours cX2_freeHours 2 (some .int), Cond.fieldLink RX2 15 "SilentRent$House" "sleep" "[I", Cond.methodLink RX8 252 yX8_commonDivisor, Cond.static yX8_commonDivisor, Cond.code yX8_commonDivisor cX8_commonDivisor 7 (some .long)]
def wsX8_odds : List Cond := .code yX8_odds cX8_odds 9 (some .long) :: ((wsX8_odds_r1 ++ wsX8_odds_r2) ++ wsX80 ++ wsX20 ++ wsX50)
def wsX8_book : List Cond := .code yX8_book cX8_book 3 (some .int) :: ([.fieldLink RX8 19 "SilentRent" "built" "LSilentRent$House;", .fieldLink RX8 49 "SilentRent" "lines" "LSilentRent$Book;", .fieldLink RX8 89 "SilentRent$Book" "length" "I", .fieldLink RX8 256 "SilentRent$Book" "who" "[I", .fieldLink RX8 259 "SilentRent$Book" "lacks" "[I", .methodLink RX8 108 yX2_hasTenant, .instanceMethod yX2_hasTenant, .selects RX2 yX2_hasTenant yX2_hasTenant, .initialized RX2, .code yX2_hasTenant cX2_hasTenant 2 (some .boolean), .fieldLink RX2 37 "SilentRent$House" "tenants" "I"] ++ wsX80 ++ wsX00 ++ wsX20)
def wsX8_burn : List Cond := .code yX8_burn cX8_burn 2 (some .int) :: ([.fieldLink RX8 49 "SilentRent" "lines" "LSilentRent$Book;", .fieldLink RX8 89 "SilentRent$Book" "length" "I"] ++ wsX80 ++ wsX00)
def wsX8_fits_r1 : List Cond := [Cond.fieldLink RX8 19 "SilentRent" "built" "LSilentRent$House;", Cond.fieldLink RX8 161 "SilentRent$House" "tenants" "I", Cond.fieldLink RX8 63 "SilentRent" "fitting" "LSilentRent$Fitting;", Cond.fieldLink RX8 49 "SilentRent" "lines" "LSilentRent$Book;", Cond.fieldLink RX8 265 "SilentRent$Fitting" "ways" "[I", Cond.methodLink RX8 262 yX1_solve, Cond.instanceMethod yX1_solve, Cond.selects RX1 yX1_solve yX1_solve, Cond.initialized RX1, Cond.code yX1_solve cX1_solve 5 none, Cond.fieldLink RX1 22 "SilentRent$House" "rooms" "I", Cond.fieldLink RX1 28 "SilentRent$Fitting" "rooms" "I", Cond.fieldLink RX1 29 "SilentRent$House" "tenants" "I", Cond.fieldLink RX1 19 "SilentRent$Fitting" "open" "[I", Cond.fieldLink RX1 9 "SilentRent$Fitting" "ways" "[I", Cond.fieldLink RX1 15 "SilentRent$Fitting" "reached" "[Z", Cond.methodLink RX1 32 yX0_roomsThatAgree, Cond.instanceMethod yX0_roomsThatAgree, Cond.selects RX0 yX0_roomsThatAgree yX0_roomsThatAgree, Cond.initialized RX0, Cond.code yX0_roomsThatAgree cX0_roomsThatAgree 5 (some .int), Cond.fieldLink RX0 18 "SilentRent$House" "rooms" "I", Cond.fieldLink RX0 24 "SilentRent$House" "price" "[I", Cond.methodLink RX0 31 Lib.Math.max.name]
def wsX8_fits_r2 : List Cond := [Cond.static Lib.Math.max.name, Cond.initialized "java/lang/Math", Cond.code Lib.Math.max.name Lib.Math.max.code 2 (some .int), Cond.methodLink RX0 27 yX2_keepsSilent, Cond.instanceMethod yX2_keepsSilent, Cond.selects RX2 yX2_keepsSilent yX2_keepsSilent, Cond.initialized RX2, Cond.code yX2_keepsSilent cX2_keepsSilent 2 (some .int), Cond.fieldLink RX2 18 "SilentRent$House" "must" "[I", Cond.methodLink RX2 43 yX2_freeHours, Cond.instanceMethod yX2_freeHours, Cond.selects RX2 yX2_freeHours yX2_freeHours, Cond.code yX2_freeHours cX2_freeHours 2 (some .int), Cond.fieldLink RX2 15 "SilentRent$House" "sleep" "[I", Cond.methodLink RX0 37 yX0_agrees, Cond.instanceMethod yX0_agrees, Cond.selects RX0 yX0_agrees yX0_agrees, Cond.code yX0_agrees cX0_agrees 4 (some .boolean), Cond.fieldLink RX0 41 "SilentRent$Book" "length" "I", Cond.fieldLink RX0 9 "SilentRent$Book" "who" "[I", Cond.fieldLink RX0 15 "SilentRent$Book" "lacks" "[I", Cond.methodLink RX1 38 yJ6_bitCount_0f7a4, Cond.static yJ6_bitCount_0f7a4, Cond.initialized RJ6]
def wsX8_fits_r3 : List Cond := [Cond.code yJ6_bitCount_0f7a4 cJ6_bitCount_0f7a4 1 (some .int), Cond.constant RJ6 265 (1431655765), Cond.constant RJ6 266 (858993459), Cond.constant RJ6 267 (252645135), Cond.methodLink RX1 44 yX1_waysOn, Cond.instanceMethod yX1_waysOn, Cond.selects RX1 yX1_waysOn yX1_waysOn, Cond.code yX1_waysOn cX1_waysOn 5 (some .int), Cond.methodLink RX1 48 yX1_reachFrom, Cond.instanceMethod yX1_reachFrom, Cond.selects RX1 yX1_reachFrom yX1_reachFrom, Cond.code yX1_reachFrom cX1_reachFrom 4 none, Cond.methodLink RX8 268 yX1_firstRoom, Cond.instanceMethod yX1_firstRoom, Cond.selects RX1 yX1_firstRoom yX1_firstRoom, Cond.code yX1_firstRoom cX1_firstRoom 5 (some .int), Cond.methodLink RX1 52 yX1_firstFrom, Cond.instanceMethod yX1_firstFrom, Cond.selects RX1 yX1_firstFrom yX1_firstFrom, Cond.code yX1_firstFrom cX1_firstFrom 5 (some .int), Cond.methodLink RX1 55 yX1_goodRooms, Cond.instanceMethod yX1_goodRooms, Cond.selects RX1 yX1_goodRooms yX1_goodRooms, Cond.code yX1_goodRooms cX1_goodRooms 5 (some .int)]
def wsX8_fits : List Cond := .code yX8_fits cX8_fits 2 (some .int) :: ((wsX8_fits_r1 ++ (wsX8_fits_r2 ++ wsX8_fits_r3)) ++ wsX80 ++ wsX20 ++ wsX10 ++ wsX00)
def wsX8_may_r1 : List Cond := [Cond.fieldLink RX8 19 "SilentRent" "built" "LSilentRent$House;", Cond.fieldLink RX8 63 "SilentRent" "fitting" "LSilentRent$Fitting;", Cond.fieldLink RX8 49 "SilentRent" "lines" "LSilentRent$Book;", Cond.methodLink RX8 108 yX2_hasTenant, Cond.instanceMethod yX2_hasTenant, Cond.selects RX2 yX2_hasTenant yX2_hasTenant, Cond.initialized RX2, Cond.code yX2_hasTenant cX2_hasTenant 2 (some .boolean), Cond.fieldLink RX2 37 "SilentRent$House" "tenants" "I", Cond.methodLink RX8 262 yX1_solve, Cond.instanceMethod yX1_solve, Cond.selects RX1 yX1_solve yX1_solve, Cond.initialized RX1, Cond.code yX1_solve cX1_solve 5 none, Cond.fieldLink RX1 22 "SilentRent$House" "rooms" "I", Cond.fieldLink RX1 28 "SilentRent$Fitting" "rooms" "I", Cond.fieldLink RX1 29 "SilentRent$House" "tenants" "I", Cond.fieldLink RX1 19 "SilentRent$Fitting" "open" "[I", Cond.fieldLink RX1 9 "SilentRent$Fitting" "ways" "[I", Cond.fieldLink RX1 15 "SilentRent$Fitting" "reached" "[Z", Cond.methodLink RX1 32 yX0_roomsThatAgree, Cond.instanceMethod yX0_roomsThatAgree, Cond.selects RX0 yX0_roomsThatAgree yX0_roomsThatAgree, Cond.initialized RX0]
def wsX8_may_r2 : List Cond := [Cond.code yX0_roomsThatAgree cX0_roomsThatAgree 5 (some .int), Cond.fieldLink RX0 18 "SilentRent$House" "rooms" "I", Cond.fieldLink RX0 24 "SilentRent$House" "price" "[I", Cond.methodLink RX0 31 Lib.Math.max.name, Cond.static Lib.Math.max.name, Cond.initialized "java/lang/Math", Cond.code Lib.Math.max.name Lib.Math.max.code 2 (some .int), Cond.methodLink RX0 27 yX2_keepsSilent, Cond.instanceMethod yX2_keepsSilent, Cond.selects RX2 yX2_keepsSilent yX2_keepsSilent, Cond.code yX2_keepsSilent cX2_keepsSilent 2 (some .int), Cond.fieldLink RX2 18 "SilentRent$House" "must" "[I", Cond.methodLink RX2 43 yX2_freeHours, Cond.instanceMethod yX2_freeHours, Cond.selects RX2 yX2_freeHours yX2_freeHours, Cond.code yX2_freeHours cX2_freeHours 2 (some .int), Cond.fieldLink RX2 15 "SilentRent$House" "sleep" "[I", Cond.methodLink RX0 37 yX0_agrees, Cond.instanceMethod yX0_agrees, Cond.selects RX0 yX0_agrees yX0_agrees, Cond.code yX0_agrees cX0_agrees 4 (some .boolean), Cond.fieldLink RX0 41 "SilentRent$Book" "length" "I", Cond.fieldLink RX0 9 "SilentRent$Book" "who" "[I", Cond.fieldLink RX0 15 "SilentRent$Book" "lacks" "[I"]
def wsX8_may_r3 : List Cond := [Cond.methodLink RX1 38 yJ6_bitCount_0f7a4, Cond.static yJ6_bitCount_0f7a4, Cond.initialized RJ6, Cond.code yJ6_bitCount_0f7a4 cJ6_bitCount_0f7a4 1 (some .int), Cond.constant RJ6 265 (1431655765), Cond.constant RJ6 266 (858993459), Cond.constant RJ6 267 (252645135), Cond.methodLink RX1 44 yX1_waysOn, Cond.instanceMethod yX1_waysOn, Cond.selects RX1 yX1_waysOn yX1_waysOn, Cond.code yX1_waysOn cX1_waysOn 5 (some .int), Cond.methodLink RX1 48 yX1_reachFrom, Cond.instanceMethod yX1_reachFrom, Cond.selects RX1 yX1_reachFrom yX1_reachFrom, Cond.code yX1_reachFrom cX1_reachFrom 4 none, Cond.methodLink RX8 271 yX1_someRooms, Cond.instanceMethod yX1_someRooms, Cond.selects RX1 yX1_someRooms yX1_someRooms, Cond.code yX1_someRooms cX1_someRooms 4 (some .int), Cond.methodLink RX1 55 yX1_goodRooms, Cond.instanceMethod yX1_goodRooms, Cond.selects RX1 yX1_goodRooms yX1_goodRooms, Cond.code yX1_goodRooms cX1_goodRooms 5 (some .int)]
def wsX8_may : List Cond := .code yX8_may cX8_may 2 (some .int) :: ((wsX8_may_r1 ++ (wsX8_may_r2 ++ wsX8_may_r3)) ++ wsX80 ++ wsX20 ++ wsX10 ++ wsX00)
def wsX8_markTenant : List Cond := .code yX8_markTenant cX8_markTenant 2 (some .int) :: ([.fieldLink RX8 300 "SilentRent" "asked" "J", .fieldLink RX8 29 "SilentRent" "now" "LSilentRent$Now;", .fieldLink RX8 132 "SilentRent$Now" "debt" "[I"] ++ wsX80 ++ wsX50)
def wsX8_markTalker : List Cond := .code yX8_markTalker cX8_markTalker 2 (some .int) :: ([.fieldLink RX8 300 "SilentRent" "asked" "J", .constantLong RX8 250 (10), .fieldLink RX8 19 "SilentRent" "built" "LSilentRent$House;", .fieldLink RX8 114 "SilentRent$House" "must" "[I", .methodLink RX8 274 yX8_markTenant, .instanceMethod yX8_markTenant, .selects RX8 yX8_markTenant yX8_markTenant, .initialized RX8, .code yX8_markTenant cX8_markTenant 2 (some .int), .fieldLink RX8 29 "SilentRent" "now" "LSilentRent$Now;", .fieldLink RX8 132 "SilentRent$Now" "debt" "[I"] ++ wsX80 ++ wsX20 ++ wsX50)
def wsX8_markMute : List Cond := .code yX8_markMute cX8_markMute 2 (some .int) :: ([.fieldLink RX8 300 "SilentRent" "asked" "J", .constantLong RX8 304 (100), .fieldLink RX8 19 "SilentRent" "built" "LSilentRent$House;", .fieldLink RX8 117 "SilentRent$House" "wits" "[I", .methodLink RX8 274 yX8_markTenant, .instanceMethod yX8_markTenant, .selects RX8 yX8_markTenant yX8_markTenant, .initialized RX8, .code yX8_markTenant cX8_markTenant 2 (some .int), .fieldLink RX8 29 "SilentRent" "now" "LSilentRent$Now;", .fieldLink RX8 132 "SilentRent$Now" "debt" "[I"] ++ wsX80 ++ wsX20 ++ wsX50)
def wsX8_markWhistler : List Cond := .code yX8_markWhistler cX8_markWhistler 2 (some .int) :: ([.fieldLink RX8 300 "SilentRent" "asked" "J", .constantLong RX8 306 (1000), .methodLink RX8 277 yX8_markTalker, .instanceMethod yX8_markTalker, .selects RX8 yX8_markTalker yX8_markTalker, .initialized RX8, .code yX8_markTalker cX8_markTalker 2 (some .int), .constantLong RX8 250 (10), .fieldLink RX8 19 "SilentRent" "built" "LSilentRent$House;", .fieldLink RX8 114 "SilentRent$House" "must" "[I", .methodLink RX8 274 yX8_markTenant, .instanceMethod yX8_markTenant, .selects RX8 yX8_markTenant yX8_markTenant, .code yX8_markTenant cX8_markTenant 2 (some .int), .fieldLink RX8 29 "SilentRent" "now" "LSilentRent$Now;", .fieldLink RX8 132 "SilentRent$Now" "debt" "[I"] ++ wsX80 ++ wsX20 ++ wsX50)
def wsX8_markHired : List Cond := .code yX8_markHired cX8_markHired 2 (some .int) :: ([.fieldLink RX8 300 "SilentRent" "asked" "J", .constantLong RX8 308 (10000), .fieldLink RX8 19 "SilentRent" "built" "LSilentRent$House;", .fieldLink RX8 120 "SilentRent$House" "asks" "[I", .methodLink RX8 280 yX8_markMute, .instanceMethod yX8_markMute, .selects RX8 yX8_markMute yX8_markMute, .initialized RX8, .code yX8_markMute cX8_markMute 2 (some .int), .constantLong RX8 304 (100), .fieldLink RX8 117 "SilentRent$House" "wits" "[I", .methodLink RX8 274 yX8_markTenant, .instanceMethod yX8_markTenant, .selects RX8 yX8_markTenant yX8_markTenant, .code yX8_markTenant cX8_markTenant 2 (some .int), .fieldLink RX8 29 "SilentRent" "now" "LSilentRent$Now;", .fieldLink RX8 132 "SilentRent$Now" "debt" "[I"] ++ wsX80 ++ wsX20 ++ wsX50)
def wsX8_markLawyer : List Cond := .code yX8_markLawyer cX8_markLawyer 2 (some .int) :: ([.fieldLink RX8 300 "SilentRent" "asked" "J", .constantLong RX8 310 (100000), .fieldLink RX8 29 "SilentRent" "now" "LSilentRent$Now;", .fieldLink RX8 158 "SilentRent$Now" "day" "I", .methodLink RX8 274 yX8_markTenant, .instanceMethod yX8_markTenant, .selects RX8 yX8_markTenant yX8_markTenant, .initialized RX8, .code yX8_markTenant cX8_markTenant 2 (some .int), .fieldLink RX8 132 "SilentRent$Now" "debt" "[I"] ++ wsX80 ++ wsX50)
def wsX8_mark_r1 : List Cond := [Cond.fieldLink RX8 19 "SilentRent" "built" "LSilentRent$House;", Cond.constant RX8 219 (-1000000), Cond.methodLink RX8 108 yX2_hasTenant, Cond.instanceMethod yX2_hasTenant, Cond.selects RX2 yX2_hasTenant yX2_hasTenant, Cond.initialized RX2, Cond.code yX2_hasTenant cX2_hasTenant 2 (some .boolean), Cond.fieldLink RX2 37 "SilentRent$House" "tenants" "I", Cond.methodLink RX8 274 yX8_markTenant, Cond.instanceMethod yX8_markTenant, Cond.selects RX8 yX8_markTenant yX8_markTenant, Cond.initialized RX8, Cond.code yX8_markTenant cX8_markTenant 2 (some .int), Cond.fieldLink RX8 300 "SilentRent" "asked" "J", Cond.fieldLink RX8 29 "SilentRent" "now" "LSilentRent$Now;", Cond.fieldLink RX8 132 "SilentRent$Now" "debt" "[I", Cond.methodLink RX8 277 yX8_markTalker, Cond.instanceMethod yX8_markTalker, Cond.selects RX8 yX8_markTalker yX8_markTalker, Cond.code yX8_markTalker cX8_markTalker 2 (some .int), Cond.constantLong RX8 250 (10), Cond.fieldLink RX8 114 "SilentRent$House" "must" "[I", Cond.methodLink RX8 280 yX8_markMute, Cond.instanceMethod yX8_markMute]
def wsX8_mark_r2 : List Cond := [Cond.selects RX8 yX8_markMute yX8_markMute, Cond.code yX8_markMute cX8_markMute 2 (some .int), Cond.constantLong RX8 304 (100), Cond.fieldLink RX8 117 "SilentRent$House" "wits" "[I", Cond.methodLink RX8 283 yX8_markWhistler, Cond.instanceMethod yX8_markWhistler, Cond.selects RX8 yX8_markWhistler yX8_markWhistler, Cond.code yX8_markWhistler cX8_markWhistler 2 (some .int), Cond.constantLong RX8 306 (1000), Cond.methodLink RX8 286 yX8_markHired, Cond.instanceMethod yX8_markHired, Cond.selects RX8 yX8_markHired yX8_markHired, Cond.code yX8_markHired cX8_markHired 2 (some .int), Cond.constantLong RX8 308 (10000), Cond.fieldLink RX8 120 "SilentRent$House" "asks" "[I", Cond.methodLink RX8 289 yX8_markLawyer, Cond.instanceMethod yX8_markLawyer, Cond.selects RX8 yX8_markLawyer yX8_markLawyer, Cond.code yX8_markLawyer cX8_markLawyer 2 (some .int), Cond.constantLong RX8 310 (100000), Cond.fieldLink RX8 158 "SilentRent$Now" "day" "I"]
def wsX8_mark : List Cond := .code yX8_mark cX8_mark 3 (some .int) :: ((wsX8_mark_r1 ++ wsX8_mark_r2) ++ wsX80 ++ wsX20 ++ wsX50)
def wsX8_keep_r1 : List Cond := [Cond.fieldLink RX8 42 "SilentRent" "images" "[LSilentRent$Image;", Cond.fieldLink RX8 90 "SilentRent$Image" "kept" "Z", Cond.fieldLink RX8 292 "SilentRent$Image" "now" "LSilentRent$Now;", Cond.fieldLink RX8 29 "SilentRent" "now" "LSilentRent$Now;", Cond.fieldLink RX8 296 "SilentRent$Image" "past" "LSilentRent$Past;", Cond.fieldLink RX8 36 "SilentRent" "past" "LSilentRent$Past;", Cond.fieldLink RX8 158 "SilentRent$Now" "day" "I", Cond.methodLink RX8 293 yX5_copyFrom, Cond.instanceMethod yX5_copyFrom, Cond.selects RX5 yX5_copyFrom yX5_copyFrom, Cond.initialized RX5, Cond.code yX5_copyFrom cX5_copyFrom 2 none, Cond.fieldLink RX5 30 "SilentRent$Now" "day" "I", Cond.fieldLink RX5 9 "SilentRent$Now" "home" "[I", Cond.methodLink RX5 34 arraycopyName, Cond.native arraycopyName, Cond.static arraycopyName, Cond.initialized "java/lang/System", Cond.fieldLink RX5 15 "SilentRent$Now" "talked" "[I", Cond.fieldLink RX5 18 "SilentRent$Now" "pays" "[I", Cond.fieldLink RX5 21 "SilentRent$Now" "debt" "[I", Cond.methodLink RX8 297 yX6_copyFrom, Cond.instanceMethod yX6_copyFrom, Cond.selects RX6 yX6_copyFrom yX6_copyFrom]
def wsX8_keep_r2 : List Cond := [Cond.initialized RX6, Cond.code yX6_copyFrom cX6_copyFrom 3 none, Cond.fieldLink RX6 18 "SilentRent$Past" "known" "I", Cond.fieldLink RX6 11 "SilentRent$Past" "steps" "[LSilentRent$Now;", Cond.methodLink RX6 25 yX5_copyFrom]
def wsX8_keep : List Cond := .code yX8_keep cX8_keep 3 (some .int) :: ((wsX8_keep_r1 ++ wsX8_keep_r2) ++ wsX80 ++ wsX40 ++ wsX50 ++ wsX60)
def wsX8_back_r1 : List Cond := [Cond.fieldLink RX8 42 "SilentRent" "images" "[LSilentRent$Image;", Cond.fieldLink RX8 90 "SilentRent$Image" "kept" "Z", Cond.fieldLink RX8 29 "SilentRent" "now" "LSilentRent$Now;", Cond.fieldLink RX8 292 "SilentRent$Image" "now" "LSilentRent$Now;", Cond.fieldLink RX8 36 "SilentRent" "past" "LSilentRent$Past;", Cond.fieldLink RX8 296 "SilentRent$Image" "past" "LSilentRent$Past;", Cond.fieldLink RX8 158 "SilentRent$Now" "day" "I", Cond.methodLink RX8 293 yX5_copyFrom, Cond.instanceMethod yX5_copyFrom, Cond.selects RX5 yX5_copyFrom yX5_copyFrom, Cond.initialized RX5, Cond.code yX5_copyFrom cX5_copyFrom 2 none, Cond.fieldLink RX5 30 "SilentRent$Now" "day" "I", Cond.fieldLink RX5 9 "SilentRent$Now" "home" "[I", Cond.methodLink RX5 34 arraycopyName, Cond.native arraycopyName, Cond.static arraycopyName, Cond.initialized "java/lang/System", Cond.fieldLink RX5 15 "SilentRent$Now" "talked" "[I", Cond.fieldLink RX5 18 "SilentRent$Now" "pays" "[I", Cond.fieldLink RX5 21 "SilentRent$Now" "debt" "[I", Cond.methodLink RX8 297 yX6_copyFrom, Cond.instanceMethod yX6_copyFrom, Cond.selects RX6 yX6_copyFrom yX6_copyFrom]
def wsX8_back_r2 : List Cond := [Cond.initialized RX6, Cond.code yX6_copyFrom cX6_copyFrom 3 none, Cond.fieldLink RX6 18 "SilentRent$Past" "known" "I", Cond.fieldLink RX6 11 "SilentRent$Past" "steps" "[LSilentRent$Now;", Cond.methodLink RX6 25 yX5_copyFrom]
def wsX8_back : List Cond := .code yX8_back cX8_back 3 (some .int) :: ((wsX8_back_r1 ++ wsX8_back_r2) ++ wsX80 ++ wsX40 ++ wsX50 ++ wsX60)
def wsX8_count : List Cond := .code yX8_count cX8_count 2 (some .int) :: ([.fieldLink RX8 19 "SilentRent" "built" "LSilentRent$House;", .fieldLink RX8 194 "SilentRent$House" "rooms" "I", .fieldLink RX8 161 "SilentRent$House" "tenants" "I", .fieldLink RX8 242 "SilentRent$House" "chairs" "I", .fieldLink RX8 49 "SilentRent" "lines" "LSilentRent$Book;", .fieldLink RX8 89 "SilentRent$Book" "length" "I", .fieldLink RX8 36 "SilentRent" "past" "LSilentRent$Past;", .fieldLink RX8 86 "SilentRent$Past" "known" "I", .fieldLink RX8 10 "SilentRent" "text" "LSilentRent$Text;", .fieldLink RX8 72 "SilentRent$Text" "length" "I"] ++ wsX80 ++ wsX20 ++ wsX00 ++ wsX60 ++ wsX70)
def wsX8_trace : List Cond := .code yX8_trace cX8_trace 1 (some .long) :: ([.fieldLink RX8 300 "SilentRent" "asked" "J"] ++ wsX80)
def wsX9_in : List Cond := .code yX9_in cX9_in 6 (some .boolean) :: ([])
def wsX9_anew : List Cond := .code yX9_anew cX9_anew 2 none :: ([.fieldLink RX9 19 "SilentRentModel" "now" "[I", .fieldLink RX9 109 "SilentRentModel" "lines" "I", .fieldLink RX9 112 "SilentRentModel" "undos" "I", .fieldLink RX9 40 "SilentRentModel" "kept" "[I"] ++ wsX90)
def wsX9_init : List Cond := .code yX9_init cX9_init 1 none :: ([.methodLink RX9 1 objectInit, .instanceMethod objectInit, .code objectInit ⟨#[0xb1]⟩ 1 none, .arrayClass .int, .fieldLink RX9 7 "SilentRentModel" "text" "[I", .fieldLink RX9 13 "SilentRentModel" "read" "[I", .fieldLink RX9 16 "SilentRentModel" "house" "[I", .fieldLink RX9 19 "SilentRentModel" "now" "[I", .fieldLink RX9 22 "SilentRentModel" "undone" "[I", .fieldLink RX9 25 "SilentRentModel" "rooms" "[I", .fieldLink RX9 28 "SilentRentModel" "groups" "[I", .fieldLink RX9 31 "SilentRentModel" "who" "[I", .fieldLink RX9 34 "SilentRentModel" "lacked" "[I", .fieldLink RX9 37 "SilentRentModel" "some" "[I", .fieldLink RX9 40 "SilentRentModel" "kept" "[I", .methodLink RX9 43 yX9_anew, .instanceMethod yX9_anew, .selects RX9 yX9_anew yX9_anew, .initialized RX9, .code yX9_anew cX9_anew 2 none, .fieldLink RX9 109 "SilentRentModel" "lines" "I", .fieldLink RX9 112 "SilentRentModel" "undos" "I"] ++ wsX90)
def wsX9_type : List Cond := .code yX9_type cX9_type 2 (some .int) :: ([.constantLong RX9 46 (255), .fieldLink RX9 52 "SilentRentModel" "size" "I", .fieldLink RX9 7 "SilentRentModel" "text" "[I", .methodLink RX9 48 yX9_in, .static yX9_in, .initialized RX9, .code yX9_in cX9_in 6 (some .boolean)] ++ wsX90)
def wsX9_clear : List Cond := .code yX9_clear cX9_clear 2 (some .int) :: ([.fieldLink RX9 52 "SilentRentModel" "size" "I"] ++ wsX90)
def wsX9_isLetter : List Cond := .code yX9_isLetter cX9_isLetter 1 (some .boolean) :: ([.constantLong RX9 56 (97), .constantLong RX9 58 (122), .methodLink RX9 48 yX9_in, .static yX9_in, .initialized RX9, .code yX9_in cX9_in 6 (some .boolean)])
def wsX9_isFigure : List Cond := .code yX9_isFigure cX9_isFigure 1 (some .boolean) :: ([.constantLong RX9 60 (48), .constantLong RX9 62 (57), .methodLink RX9 48 yX9_in, .static yX9_in, .initialized RX9, .code yX9_in cX9_in 6 (some .boolean)])
def wsX9_readLetters : List Cond := .code yX9_readLetters cX9_readLetters 1 none :: ([.fieldLink RX9 7 "SilentRentModel" "text" "[I", .fieldLink RX9 64 "SilentRentModel" "at" "I", .fieldLink RX9 67 "SilentRentModel" "told" "I", .fieldLink RX9 52 "SilentRentModel" "size" "I", .fieldLink RX9 74 "SilentRentModel" "begin" "I", .fieldLink RX9 77 "SilentRentModel" "token" "I", .methodLink RX9 70 yX9_isLetter, .static yX9_isLetter, .initialized RX9, .code yX9_isLetter cX9_isLetter 1 (some .boolean), .constantLong RX9 56 (97), .constantLong RX9 58 (122), .methodLink RX9 48 yX9_in, .static yX9_in, .code yX9_in cX9_in 6 (some .boolean)] ++ wsX90)
def wsX9_readNumber : List Cond := .code yX9_readNumber cX9_readNumber 2 none :: ([.fieldLink RX9 64 "SilentRentModel" "at" "I", .fieldLink RX9 52 "SilentRentModel" "size" "I", .fieldLink RX9 7 "SilentRentModel" "text" "[I", .fieldLink RX9 74 "SilentRentModel" "begin" "I", .fieldLink RX9 77 "SilentRentModel" "token" "I", .fieldLink RX9 67 "SilentRentModel" "told" "I", .methodLink RX9 80 yX9_isFigure, .static yX9_isFigure, .initialized RX9, .code yX9_isFigure cX9_isFigure 1 (some .boolean), .constantLong RX9 60 (48), .constantLong RX9 62 (57), .methodLink RX9 48 yX9_in, .static yX9_in, .code yX9_in cX9_in 6 (some .boolean)] ++ wsX90)
def wsX9_reads_r1 : List Cond := [Cond.fieldLink RX9 64 "SilentRentModel" "at" "I", Cond.fieldLink RX9 52 "SilentRentModel" "size" "I", Cond.fieldLink RX9 7 "SilentRentModel" "text" "[I", Cond.fieldLink RX9 74 "SilentRentModel" "begin" "I", Cond.fieldLink RX9 77 "SilentRentModel" "token" "I", Cond.methodLink RX9 70 yX9_isLetter, Cond.static yX9_isLetter, Cond.initialized RX9, Cond.code yX9_isLetter cX9_isLetter 1 (some .boolean), Cond.constantLong RX9 56 (97), Cond.constantLong RX9 58 (122), Cond.methodLink RX9 48 yX9_in, Cond.static yX9_in, Cond.code yX9_in cX9_in 6 (some .boolean), Cond.methodLink RX9 83 yX9_readLetters, Cond.instanceMethod yX9_readLetters, Cond.selects RX9 yX9_readLetters yX9_readLetters, Cond.code yX9_readLetters cX9_readLetters 1 none, Cond.fieldLink RX9 67 "SilentRentModel" "told" "I", Cond.methodLink RX9 80 yX9_isFigure, Cond.static yX9_isFigure, Cond.code yX9_isFigure cX9_isFigure 1 (some .boolean), Cond.constantLong RX9 60 (48), Cond.constantLong RX9 62 (57)]
def wsX9_reads_r2 : List Cond := [Cond.methodLink RX9 86 yX9_readNumber, Cond.instanceMethod yX9_readNumber, Cond.selects RX9 yX9_readNumber yX9_readNumber, Cond.code yX9_readNumber cX9_readNumber 2 none]
def wsX9_reads : List Cond := .code yX9_reads cX9_reads 1 none :: ((wsX9_reads_r1 ++ wsX9_reads_r2) ++ wsX90)
def wsX9_number_r1 : List Cond := [Cond.fieldLink RX9 77 "SilentRentModel" "token" "I", Cond.fieldLink RX9 67 "SilentRentModel" "told" "I", Cond.methodLink RX9 89 yX9_reads, Cond.instanceMethod yX9_reads, Cond.selects RX9 yX9_reads yX9_reads, Cond.initialized RX9, Cond.code yX9_reads cX9_reads 1 none, Cond.fieldLink RX9 64 "SilentRentModel" "at" "I", Cond.fieldLink RX9 52 "SilentRentModel" "size" "I", Cond.fieldLink RX9 7 "SilentRentModel" "text" "[I", Cond.fieldLink RX9 74 "SilentRentModel" "begin" "I", Cond.methodLink RX9 70 yX9_isLetter, Cond.static yX9_isLetter, Cond.code yX9_isLetter cX9_isLetter 1 (some .boolean), Cond.constantLong RX9 56 (97), Cond.constantLong RX9 58 (122), Cond.methodLink RX9 48 yX9_in, Cond.static yX9_in, Cond.code yX9_in cX9_in 6 (some .boolean), Cond.methodLink RX9 83 yX9_readLetters, Cond.instanceMethod yX9_readLetters, Cond.selects RX9 yX9_readLetters yX9_readLetters, Cond.code yX9_readLetters cX9_readLetters 1 none, Cond.methodLink RX9 80 yX9_isFigure]
def wsX9_number_r2 : List Cond := [Cond.static yX9_isFigure, Cond.code yX9_isFigure cX9_isFigure 1 (some .boolean), Cond.constantLong RX9 60 (48), Cond.constantLong RX9 62 (57), Cond.methodLink RX9 86 yX9_readNumber, Cond.instanceMethod yX9_readNumber, Cond.selects RX9 yX9_readNumber yX9_readNumber, Cond.code yX9_readNumber cX9_readNumber 2 none]
def wsX9_number : List Cond := .code yX9_number cX9_number 3 (some .boolean) :: ((wsX9_number_r1 ++ wsX9_number_r2) ++ wsX90)
def wsX9_ends_r1 : List Cond := [Cond.fieldLink RX9 77 "SilentRentModel" "token" "I", Cond.methodLink RX9 89 yX9_reads, Cond.instanceMethod yX9_reads, Cond.selects RX9 yX9_reads yX9_reads, Cond.initialized RX9, Cond.code yX9_reads cX9_reads 1 none, Cond.fieldLink RX9 64 "SilentRentModel" "at" "I", Cond.fieldLink RX9 52 "SilentRentModel" "size" "I", Cond.fieldLink RX9 7 "SilentRentModel" "text" "[I", Cond.fieldLink RX9 74 "SilentRentModel" "begin" "I", Cond.methodLink RX9 70 yX9_isLetter, Cond.static yX9_isLetter, Cond.code yX9_isLetter cX9_isLetter 1 (some .boolean), Cond.constantLong RX9 56 (97), Cond.constantLong RX9 58 (122), Cond.methodLink RX9 48 yX9_in, Cond.static yX9_in, Cond.code yX9_in cX9_in 6 (some .boolean), Cond.methodLink RX9 83 yX9_readLetters, Cond.instanceMethod yX9_readLetters, Cond.selects RX9 yX9_readLetters yX9_readLetters, Cond.code yX9_readLetters cX9_readLetters 1 none, Cond.fieldLink RX9 67 "SilentRentModel" "told" "I", Cond.methodLink RX9 80 yX9_isFigure]
def wsX9_ends_r2 : List Cond := [Cond.static yX9_isFigure, Cond.code yX9_isFigure cX9_isFigure 1 (some .boolean), Cond.constantLong RX9 60 (48), Cond.constantLong RX9 62 (57), Cond.methodLink RX9 86 yX9_readNumber, Cond.instanceMethod yX9_readNumber, Cond.selects RX9 yX9_readNumber yX9_readNumber, Cond.code yX9_readNumber cX9_readNumber 2 none]
def wsX9_ends : List Cond := .code yX9_ends cX9_ends 1 (some .boolean) :: ((wsX9_ends_r1 ++ wsX9_ends_r2) ++ wsX90)
def wsX9_readTenant_r1 : List Cond := [Cond.fieldLink RX9 13 "SilentRentModel" "read" "[I", Cond.fieldLink RX9 67 "SilentRentModel" "told" "I", Cond.methodLink RX9 92 yX9_number, Cond.instanceMethod yX9_number, Cond.selects RX9 yX9_number yX9_number, Cond.initialized RX9, Cond.code yX9_number cX9_number 3 (some .boolean), Cond.fieldLink RX9 77 "SilentRentModel" "token" "I", Cond.methodLink RX9 89 yX9_reads, Cond.instanceMethod yX9_reads, Cond.selects RX9 yX9_reads yX9_reads, Cond.code yX9_reads cX9_reads 1 none, Cond.fieldLink RX9 64 "SilentRentModel" "at" "I", Cond.fieldLink RX9 52 "SilentRentModel" "size" "I", Cond.fieldLink RX9 7 "SilentRentModel" "text" "[I", Cond.fieldLink RX9 74 "SilentRentModel" "begin" "I", Cond.methodLink RX9 70 yX9_isLetter, Cond.static yX9_isLetter, Cond.code yX9_isLetter cX9_isLetter 1 (some .boolean), Cond.constantLong RX9 56 (97), Cond.constantLong RX9 58 (122), Cond.methodLink RX9 48 yX9_in, Cond.static yX9_in, Cond.code yX9_in cX9_in 6 (some .boolean)]
def wsX9_readTenant_r2 : List Cond := [Cond.methodLink RX9 83 yX9_readLetters, Cond.instanceMethod yX9_readLetters, Cond.selects RX9 yX9_readLetters yX9_readLetters, Cond.code yX9_readLetters cX9_readLetters 1 none, Cond.methodLink RX9 80 yX9_isFigure, Cond.static yX9_isFigure, Cond.code yX9_isFigure cX9_isFigure 1 (some .boolean), Cond.constantLong RX9 60 (48), Cond.constantLong RX9 62 (57), Cond.methodLink RX9 86 yX9_readNumber, Cond.instanceMethod yX9_readNumber, Cond.selects RX9 yX9_readNumber yX9_readNumber, Cond.code yX9_readNumber cX9_readNumber 2 none, Cond.methodLink RX9 96 yX9_ends, Cond.instanceMethod yX9_ends, Cond.selects RX9 yX9_ends yX9_ends, Cond.code yX9_ends cX9_ends 1 (some .boolean)]
def wsX9_readTenant : List Cond := .code yX9_readTenant cX9_readTenant 3 (some .boolean) :: ((wsX9_readTenant_r1 ++ wsX9_readTenant_r2) ++ wsX90)
def wsX9_readHears_r1 : List Cond := [Cond.fieldLink RX9 13 "SilentRentModel" "read" "[I", Cond.fieldLink RX9 67 "SilentRentModel" "told" "I", Cond.methodLink RX9 92 yX9_number, Cond.instanceMethod yX9_number, Cond.selects RX9 yX9_number yX9_number, Cond.initialized RX9, Cond.code yX9_number cX9_number 3 (some .boolean), Cond.fieldLink RX9 77 "SilentRentModel" "token" "I", Cond.methodLink RX9 89 yX9_reads, Cond.instanceMethod yX9_reads, Cond.selects RX9 yX9_reads yX9_reads, Cond.code yX9_reads cX9_reads 1 none, Cond.fieldLink RX9 64 "SilentRentModel" "at" "I", Cond.fieldLink RX9 52 "SilentRentModel" "size" "I", Cond.fieldLink RX9 7 "SilentRentModel" "text" "[I", Cond.fieldLink RX9 74 "SilentRentModel" "begin" "I", Cond.methodLink RX9 70 yX9_isLetter, Cond.static yX9_isLetter, Cond.code yX9_isLetter cX9_isLetter 1 (some .boolean), Cond.constantLong RX9 56 (97), Cond.constantLong RX9 58 (122), Cond.methodLink RX9 48 yX9_in, Cond.static yX9_in, Cond.code yX9_in cX9_in 6 (some .boolean)]
def wsX9_readHears_r2 : List Cond := [Cond.methodLink RX9 83 yX9_readLetters, Cond.instanceMethod yX9_readLetters, Cond.selects RX9 yX9_readLetters yX9_readLetters, Cond.code yX9_readLetters cX9_readLetters 1 none, Cond.methodLink RX9 80 yX9_isFigure, Cond.static yX9_isFigure, Cond.code yX9_isFigure cX9_isFigure 1 (some .boolean), Cond.constantLong RX9 60 (48), Cond.constantLong RX9 62 (57), Cond.methodLink RX9 86 yX9_readNumber, Cond.instanceMethod yX9_readNumber, Cond.selects RX9 yX9_readNumber yX9_readNumber, Cond.code yX9_readNumber cX9_readNumber 2 none, Cond.methodLink RX9 96 yX9_ends, Cond.instanceMethod yX9_ends, Cond.selects RX9 yX9_ends yX9_ends, Cond.code yX9_ends cX9_ends 1 (some .boolean)]
def wsX9_readHears : List Cond := .code yX9_readHears cX9_readHears 2 (some .boolean) :: ((wsX9_readHears_r1 ++ wsX9_readHears_r2) ++ wsX90)
def wsX9_readItem_r1 : List Cond := [Cond.fieldLink RX9 77 "SilentRentModel" "token" "I", Cond.fieldLink RX9 67 "SilentRentModel" "told" "I", Cond.fieldLink RX9 13 "SilentRentModel" "read" "[I", Cond.methodLink RX9 92 yX9_number, Cond.instanceMethod yX9_number, Cond.selects RX9 yX9_number yX9_number, Cond.initialized RX9, Cond.code yX9_number cX9_number 3 (some .boolean), Cond.methodLink RX9 89 yX9_reads, Cond.instanceMethod yX9_reads, Cond.selects RX9 yX9_reads yX9_reads, Cond.code yX9_reads cX9_reads 1 none, Cond.fieldLink RX9 64 "SilentRentModel" "at" "I", Cond.fieldLink RX9 52 "SilentRentModel" "size" "I", Cond.fieldLink RX9 7 "SilentRentModel" "text" "[I", Cond.fieldLink RX9 74 "SilentRentModel" "begin" "I", Cond.methodLink RX9 70 yX9_isLetter, Cond.static yX9_isLetter, Cond.code yX9_isLetter cX9_isLetter 1 (some .boolean), Cond.constantLong RX9 56 (97), Cond.constantLong RX9 58 (122), Cond.methodLink RX9 48 yX9_in, Cond.static yX9_in, Cond.code yX9_in cX9_in 6 (some .boolean)]
def wsX9_readItem_r2 : List Cond := [Cond.methodLink RX9 83 yX9_readLetters, Cond.instanceMethod yX9_readLetters, Cond.selects RX9 yX9_readLetters yX9_readLetters, Cond.code yX9_readLetters cX9_readLetters 1 none, Cond.methodLink RX9 80 yX9_isFigure, Cond.static yX9_isFigure, Cond.code yX9_isFigure cX9_isFigure 1 (some .boolean), Cond.constantLong RX9 60 (48), Cond.constantLong RX9 62 (57), Cond.methodLink RX9 86 yX9_readNumber, Cond.instanceMethod yX9_readNumber, Cond.selects RX9 yX9_readNumber yX9_readNumber, Cond.code yX9_readNumber cX9_readNumber 2 none, Cond.methodLink RX9 96 yX9_ends, Cond.instanceMethod yX9_ends, Cond.selects RX9 yX9_ends yX9_ends, Cond.code yX9_ends cX9_ends 1 (some .boolean), Cond.methodLink RX9 100 yX9_readTenant, Cond.instanceMethod yX9_readTenant, Cond.selects RX9 yX9_readTenant yX9_readTenant, Cond.code yX9_readTenant cX9_readTenant 3 (some .boolean), Cond.methodLink RX9 103 yX9_readHears, Cond.instanceMethod yX9_readHears, Cond.selects RX9 yX9_readHears yX9_readHears]
def wsX9_readItem_r3 : List Cond := [Cond.code yX9_readHears cX9_readHears 2 (some .boolean)]
def wsX9_readItem : List Cond := .code yX9_readItem cX9_readItem 1 (some .boolean) :: ((wsX9_readItem_r1 ++ (wsX9_readItem_r2 ++ wsX9_readItem_r3)) ++ wsX90)
def wsX9_house_r1 : List Cond := [Cond.fieldLink RX9 13 "SilentRentModel" "read" "[I", Cond.fieldLink RX9 64 "SilentRentModel" "at" "I", Cond.fieldLink RX9 77 "SilentRentModel" "token" "I", Cond.fieldLink RX9 74 "SilentRentModel" "begin" "I", Cond.fieldLink RX9 52 "SilentRentModel" "size" "I", Cond.fieldLink RX9 16 "SilentRentModel" "house" "[I", Cond.methodLink RX9 89 yX9_reads, Cond.instanceMethod yX9_reads, Cond.selects RX9 yX9_reads yX9_reads, Cond.initialized RX9, Cond.code yX9_reads cX9_reads 1 none, Cond.fieldLink RX9 7 "SilentRentModel" "text" "[I", Cond.methodLink RX9 70 yX9_isLetter, Cond.static yX9_isLetter, Cond.code yX9_isLetter cX9_isLetter 1 (some .boolean), Cond.constantLong RX9 56 (97), Cond.constantLong RX9 58 (122), Cond.methodLink RX9 48 yX9_in, Cond.static yX9_in, Cond.code yX9_in cX9_in 6 (some .boolean), Cond.methodLink RX9 83 yX9_readLetters, Cond.instanceMethod yX9_readLetters, Cond.selects RX9 yX9_readLetters yX9_readLetters, Cond.code yX9_readLetters cX9_readLetters 1 none]
def wsX9_house_r2 : List Cond := [Cond.fieldLink RX9 67 "SilentRentModel" "told" "I", Cond.methodLink RX9 80 yX9_isFigure, Cond.static yX9_isFigure, Cond.code yX9_isFigure cX9_isFigure 1 (some .boolean), Cond.constantLong RX9 60 (48), Cond.constantLong RX9 62 (57), Cond.methodLink RX9 86 yX9_readNumber, Cond.instanceMethod yX9_readNumber, Cond.selects RX9 yX9_readNumber yX9_readNumber, Cond.code yX9_readNumber cX9_readNumber 2 none, Cond.methodLink RX9 106 yX9_readItem, Cond.instanceMethod yX9_readItem, Cond.selects RX9 yX9_readItem yX9_readItem, Cond.code yX9_readItem cX9_readItem 1 (some .boolean), Cond.methodLink RX9 92 yX9_number, Cond.instanceMethod yX9_number, Cond.selects RX9 yX9_number yX9_number, Cond.code yX9_number cX9_number 3 (some .boolean), Cond.methodLink RX9 96 yX9_ends, Cond.instanceMethod yX9_ends, Cond.selects RX9 yX9_ends yX9_ends, Cond.code yX9_ends cX9_ends 1 (some .boolean), Cond.methodLink RX9 100 yX9_readTenant, Cond.instanceMethod yX9_readTenant]
def wsX9_house_r3 : List Cond := [Cond.selects RX9 yX9_readTenant yX9_readTenant, Cond.code yX9_readTenant cX9_readTenant 3 (some .boolean), Cond.methodLink RX9 103 yX9_readHears, Cond.instanceMethod yX9_readHears, Cond.selects RX9 yX9_readHears yX9_readHears, Cond.code yX9_readHears cX9_readHears 2 (some .boolean), Cond.methodLink RX9 43 yX9_anew, Cond.instanceMethod yX9_anew, Cond.selects RX9 yX9_anew yX9_anew, Cond.code yX9_anew cX9_anew 2 none, Cond.fieldLink RX9 19 "SilentRentModel" "now" "[I", Cond.fieldLink RX9 109 "SilentRentModel" "lines" "I", Cond.fieldLink RX9 112 "SilentRentModel" "undos" "I", Cond.fieldLink RX9 40 "SilentRentModel" "kept" "[I"]
def wsX9_house : List Cond := .code yX9_house cX9_house 3 (some .int) :: ((wsX9_house_r1 ++ (wsX9_house_r2 ++ wsX9_house_r3)) ++ wsX90)
def wsX9_isRoom : List Cond := .code yX9_isRoom cX9_isRoom 2 (some .boolean) :: ([.fieldLink RX9 16 "SilentRentModel" "house" "[I", .methodLink RX9 48 yX9_in, .static yX9_in, .initialized RX9, .code yX9_in cX9_in 6 (some .boolean)] ++ wsX90)
def wsX9_isTenant : List Cond := .code yX9_isTenant cX9_isTenant 2 (some .boolean) :: ([.fieldLink RX9 16 "SilentRentModel" "house" "[I", .methodLink RX9 48 yX9_in, .static yX9_in, .initialized RX9, .code yX9_in cX9_in 6 (some .boolean)] ++ wsX90)
def wsX9_roomOf : List Cond := .code yX9_roomOf cX9_roomOf 2 (some .int) :: ([.fieldLink RX9 19 "SilentRentModel" "now" "[I"] ++ wsX90)
def wsX9_debt : List Cond := .code yX9_debt cX9_debt 2 (some .int) :: ([.fieldLink RX9 19 "SilentRentModel" "now" "[I"] ++ wsX90)
def wsX9_free : List Cond := .code yX9_free cX9_free 2 (some .int) :: ([.fieldLink RX9 16 "SilentRentModel" "house" "[I"] ++ wsX90)
def wsX9_must : List Cond := .code yX9_must cX9_must 2 (some .int) :: ([.fieldLink RX9 16 "SilentRentModel" "house" "[I"] ++ wsX90)
def wsX9_silent : List Cond := .code yX9_silent cX9_silent 3 (some .int) :: ([.fieldLink RX9 19 "SilentRentModel" "now" "[I", .methodLink RX9 115 yX9_free, .instanceMethod yX9_free, .selects RX9 yX9_free yX9_free, .initialized RX9, .code yX9_free cX9_free 2 (some .int), .fieldLink RX9 16 "SilentRentModel" "house" "[I"] ++ wsX90)
def wsX9_more : List Cond := .code yX9_more cX9_more 3 (some .int) :: ([.fieldLink RX9 16 "SilentRentModel" "house" "[I", .methodLink RX9 115 yX9_free, .instanceMethod yX9_free, .selects RX9 yX9_free yX9_free, .initialized RX9, .code yX9_free cX9_free 2 (some .int), .methodLink RX9 119 yX9_must, .instanceMethod yX9_must, .selects RX9 yX9_must yX9_must, .code yX9_must cX9_must 2 (some .int)] ++ wsX90)
def wsX9_livesIn : List Cond := .code yX9_livesIn cX9_livesIn 4 (some .int) :: ([.fieldLink RX9 16 "SilentRentModel" "house" "[I", .methodLink RX9 122 yX9_roomOf, .instanceMethod yX9_roomOf, .selects RX9 yX9_roomOf yX9_roomOf, .initialized RX9, .code yX9_roomOf cX9_roomOf 2 (some .int), .fieldLink RX9 19 "SilentRentModel" "now" "[I"] ++ wsX90)
def wsX9_room_r1 : List Cond := [Cond.constantLong RX9 128 (2), Cond.fieldLink RX9 16 "SilentRentModel" "house" "[I", Cond.methodLink RX9 125 yX9_isRoom, Cond.instanceMethod yX9_isRoom, Cond.selects RX9 yX9_isRoom yX9_isRoom, Cond.initialized RX9, Cond.code yX9_isRoom cX9_isRoom 2 (some .boolean), Cond.methodLink RX9 48 yX9_in, Cond.static yX9_in, Cond.code yX9_in cX9_in 6 (some .boolean), Cond.methodLink RX9 130 yX9_more, Cond.instanceMethod yX9_more, Cond.selects RX9 yX9_more yX9_more, Cond.code yX9_more cX9_more 3 (some .int), Cond.methodLink RX9 115 yX9_free, Cond.instanceMethod yX9_free, Cond.selects RX9 yX9_free yX9_free, Cond.code yX9_free cX9_free 2 (some .int), Cond.methodLink RX9 119 yX9_must, Cond.instanceMethod yX9_must, Cond.selects RX9 yX9_must yX9_must, Cond.code yX9_must cX9_must 2 (some .int), Cond.methodLink RX9 134 yX9_livesIn, Cond.instanceMethod yX9_livesIn]
def wsX9_room_r2 : List Cond := [Cond.selects RX9 yX9_livesIn yX9_livesIn, Cond.code yX9_livesIn cX9_livesIn 4 (some .int), Cond.methodLink RX9 122 yX9_roomOf, Cond.instanceMethod yX9_roomOf, Cond.selects RX9 yX9_roomOf yX9_roomOf, Cond.code yX9_roomOf cX9_roomOf 2 (some .int), Cond.fieldLink RX9 19 "SilentRentModel" "now" "[I"]
def wsX9_room : List Cond := .code yX9_room cX9_room 5 (some .int) :: ((wsX9_room_r1 ++ wsX9_room_r2) ++ wsX90)
def wsX9_tenant : List Cond := .code yX9_tenant cX9_tenant 3 (some .int) :: ([.constantLong RX9 140 (9), .fieldLink RX9 16 "SilentRentModel" "house" "[I", .fieldLink RX9 19 "SilentRentModel" "now" "[I", .methodLink RX9 137 yX9_isTenant, .instanceMethod yX9_isTenant, .selects RX9 yX9_isTenant yX9_isTenant, .initialized RX9, .code yX9_isTenant cX9_isTenant 2 (some .boolean), .methodLink RX9 48 yX9_in, .static yX9_in, .code yX9_in cX9_in 6 (some .boolean), .methodLink RX9 142 yX9_silent, .instanceMethod yX9_silent, .selects RX9 yX9_silent yX9_silent, .code yX9_silent cX9_silent 3 (some .int), .methodLink RX9 115 yX9_free, .instanceMethod yX9_free, .selects RX9 yX9_free yX9_free, .code yX9_free cX9_free 2 (some .int)] ++ wsX90)
def wsX9_lips : List Cond := .code yX9_lips cX9_lips 2 (some .int) :: ([.fieldLink RX9 16 "SilentRentModel" "house" "[I"] ++ wsX90)
def wsX9_chair : List Cond := .code yX9_chair cX9_chair 2 (some .int) :: ([.fieldLink RX9 16 "SilentRentModel" "house" "[I", .methodLink RX9 48 yX9_in, .static yX9_in, .initialized RX9, .code yX9_in cX9_in 6 (some .boolean), .methodLink RX9 145 yX9_lips, .instanceMethod yX9_lips, .selects RX9 yX9_lips yX9_lips, .code yX9_lips cX9_lips 2 (some .int)] ++ wsX90)
def wsX9_notes : List Cond := .code yX9_notes cX9_notes 2 none :: ([.fieldLink RX9 112 "SilentRentModel" "undos" "I", .fieldLink RX9 22 "SilentRentModel" "undone" "[I", .fieldLink RX9 19 "SilentRentModel" "now" "[I"] ++ wsX90)
def wsX9_moves_r1 : List Cond := [Cond.constantLong RX9 148 (-1), Cond.fieldLink RX9 16 "SilentRentModel" "house" "[I", Cond.fieldLink RX9 19 "SilentRentModel" "now" "[I", Cond.methodLink RX9 137 yX9_isTenant, Cond.instanceMethod yX9_isTenant, Cond.selects RX9 yX9_isTenant yX9_isTenant, Cond.initialized RX9, Cond.code yX9_isTenant cX9_isTenant 2 (some .boolean), Cond.methodLink RX9 48 yX9_in, Cond.static yX9_in, Cond.code yX9_in cX9_in 6 (some .boolean), Cond.methodLink RX9 122 yX9_roomOf, Cond.instanceMethod yX9_roomOf, Cond.selects RX9 yX9_roomOf yX9_roomOf, Cond.code yX9_roomOf cX9_roomOf 2 (some .int), Cond.methodLink RX9 134 yX9_livesIn, Cond.instanceMethod yX9_livesIn, Cond.selects RX9 yX9_livesIn yX9_livesIn, Cond.code yX9_livesIn cX9_livesIn 4 (some .int), Cond.methodLink RX9 150 yX9_notes, Cond.instanceMethod yX9_notes, Cond.selects RX9 yX9_notes yX9_notes, Cond.code yX9_notes cX9_notes 2 none, Cond.fieldLink RX9 112 "SilentRentModel" "undos" "I"]
def wsX9_moves_r2 : List Cond := [Cond.fieldLink RX9 22 "SilentRentModel" "undone" "[I"]
def wsX9_moves : List Cond := .code yX9_moves cX9_moves 4 (some .int) :: ((wsX9_moves_r1 ++ wsX9_moves_r2) ++ wsX90)
def wsX9_talks : List Cond := .code yX9_talks cX9_talks 5 (some .int) :: ([.constantLong RX9 153 (24), .fieldLink RX9 16 "SilentRentModel" "house" "[I", .fieldLink RX9 19 "SilentRentModel" "now" "[I", .methodLink RX9 137 yX9_isTenant, .instanceMethod yX9_isTenant, .selects RX9 yX9_isTenant yX9_isTenant, .initialized RX9, .code yX9_isTenant cX9_isTenant 2 (some .boolean), .methodLink RX9 48 yX9_in, .static yX9_in, .code yX9_in cX9_in 6 (some .boolean), .methodLink RX9 115 yX9_free, .instanceMethod yX9_free, .selects RX9 yX9_free yX9_free, .code yX9_free cX9_free 2 (some .int), .methodLink RX9 150 yX9_notes, .instanceMethod yX9_notes, .selects RX9 yX9_notes yX9_notes, .code yX9_notes cX9_notes 2 none, .fieldLink RX9 112 "SilentRentModel" "undos" "I", .fieldLink RX9 22 "SilentRentModel" "undone" "[I"] ++ wsX90)
def wsX9_debts : List Cond := .code yX9_debts cX9_debts 3 (some .int) :: ([.fieldLink RX9 16 "SilentRentModel" "house" "[I", .methodLink RX9 155 yX9_debt, .instanceMethod yX9_debt, .selects RX9 yX9_debt yX9_debt, .initialized RX9, .code yX9_debt cX9_debt 2 (some .int), .fieldLink RX9 19 "SilentRentModel" "now" "[I"] ++ wsX90)
def wsX9_evening_r1 : List Cond := [Cond.fieldLink RX9 19 "SilentRentModel" "now" "[I", Cond.fieldLink RX9 16 "SilentRentModel" "house" "[I", Cond.methodLink RX9 150 yX9_notes, Cond.instanceMethod yX9_notes, Cond.selects RX9 yX9_notes yX9_notes, Cond.initialized RX9, Cond.code yX9_notes cX9_notes 2 none, Cond.fieldLink RX9 112 "SilentRentModel" "undos" "I", Cond.fieldLink RX9 22 "SilentRentModel" "undone" "[I", Cond.methodLink RX9 122 yX9_roomOf, Cond.instanceMethod yX9_roomOf, Cond.selects RX9 yX9_roomOf yX9_roomOf, Cond.code yX9_roomOf cX9_roomOf 2 (some .int), Cond.methodLink RX9 155 yX9_debt, Cond.instanceMethod yX9_debt, Cond.selects RX9 yX9_debt yX9_debt, Cond.code yX9_debt cX9_debt 2 (some .int), Cond.methodLink RX9 142 yX9_silent, Cond.instanceMethod yX9_silent, Cond.selects RX9 yX9_silent yX9_silent, Cond.code yX9_silent cX9_silent 3 (some .int), Cond.methodLink RX9 115 yX9_free, Cond.instanceMethod yX9_free, Cond.selects RX9 yX9_free yX9_free]
def wsX9_evening_r2 : List Cond := [Cond.code yX9_free cX9_free 2 (some .int), Cond.methodLink RX9 158 yX9_debts, Cond.instanceMethod yX9_debts, Cond.selects RX9 yX9_debts yX9_debts, Cond.code yX9_debts cX9_debts 3 (some .int)]
def wsX9_evening : List Cond := .code yX9_evening cX9_evening 3 (some .int) :: ((wsX9_evening_r1 ++ wsX9_evening_r2) ++ wsX90)
def wsX9_lends : List Cond := .code yX9_lends cX9_lends 4 (some .int) :: ([.constantLong RX9 162 (99), .fieldLink RX9 19 "SilentRentModel" "now" "[I", .methodLink RX9 137 yX9_isTenant, .instanceMethod yX9_isTenant, .selects RX9 yX9_isTenant yX9_isTenant, .initialized RX9, .code yX9_isTenant cX9_isTenant 2 (some .boolean), .fieldLink RX9 16 "SilentRentModel" "house" "[I", .methodLink RX9 48 yX9_in, .static yX9_in, .code yX9_in cX9_in 6 (some .boolean), .methodLink RX9 155 yX9_debt, .instanceMethod yX9_debt, .selects RX9 yX9_debt yX9_debt, .code yX9_debt cX9_debt 2 (some .int), .methodLink RX9 150 yX9_notes, .instanceMethod yX9_notes, .selects RX9 yX9_notes yX9_notes, .code yX9_notes cX9_notes 2 none, .fieldLink RX9 112 "SilentRentModel" "undos" "I", .fieldLink RX9 22 "SilentRentModel" "undone" "[I"] ++ wsX90)
def wsX9_undo : List Cond := .code yX9_undo cX9_undo 2 (some .int) :: ([.fieldLink RX9 112 "SilentRentModel" "undos" "I", .fieldLink RX9 19 "SilentRentModel" "now" "[I", .fieldLink RX9 22 "SilentRentModel" "undone" "[I"] ++ wsX90)
def wsX9_now_r1 : List Cond := [Cond.fieldLink RX9 16 "SilentRentModel" "house" "[I", Cond.fieldLink RX9 19 "SilentRentModel" "now" "[I", Cond.methodLink RX9 122 yX9_roomOf, Cond.instanceMethod yX9_roomOf, Cond.selects RX9 yX9_roomOf yX9_roomOf, Cond.initialized RX9, Cond.code yX9_roomOf cX9_roomOf 2 (some .int), Cond.methodLink RX9 130 yX9_more, Cond.instanceMethod yX9_more, Cond.selects RX9 yX9_more yX9_more, Cond.code yX9_more cX9_more 3 (some .int), Cond.methodLink RX9 115 yX9_free, Cond.instanceMethod yX9_free, Cond.selects RX9 yX9_free yX9_free, Cond.code yX9_free cX9_free 2 (some .int), Cond.methodLink RX9 119 yX9_must, Cond.instanceMethod yX9_must, Cond.selects RX9 yX9_must yX9_must, Cond.code yX9_must cX9_must 2 (some .int), Cond.methodLink RX9 158 yX9_debts, Cond.instanceMethod yX9_debts, Cond.selects RX9 yX9_debts yX9_debts, Cond.code yX9_debts cX9_debts 3 (some .int), Cond.methodLink RX9 155 yX9_debt]
def wsX9_now_r2 : List Cond := [Cond.instanceMethod yX9_debt, Cond.selects RX9 yX9_debt yX9_debt, Cond.code yX9_debt cX9_debt 2 (some .int)]
def wsX9_now : List Cond := .code yX9_now cX9_now 7 (some .int) :: ((wsX9_now_r1 ++ wsX9_now_r2) ++ wsX90)
def wsX9_power : List Cond := .code yX9_power cX9_power 4 (some .int) :: ([])
def wsX9_finds : List Cond := .code yX9_finds cX9_finds 11 none :: ([.fieldLink RX9 16 "SilentRentModel" "house" "[I", .fieldLink RX9 167 "SilentRentModel" "best" "I", .fieldLink RX9 170 "SilentRentModel" "bestPrices" "I", .fieldLink RX9 25 "SilentRentModel" "rooms" "[I", .methodLink RX9 164 yX9_power, .static yX9_power, .initialized RX9, .code yX9_power cX9_power 4 (some .int), .methodLink RX9 130 yX9_more, .instanceMethod yX9_more, .selects RX9 yX9_more yX9_more, .code yX9_more cX9_more 3 (some .int), .methodLink RX9 115 yX9_free, .instanceMethod yX9_free, .selects RX9 yX9_free yX9_free, .code yX9_free cX9_free 2 (some .int), .methodLink RX9 119 yX9_must, .instanceMethod yX9_must, .selects RX9 yX9_must yX9_must, .code yX9_must cX9_must 2 (some .int)] ++ wsX90)
def wsX9_housed_r1 : List Cond := [Cond.constantLong RX9 173 (-2), Cond.fieldLink RX9 16 "SilentRentModel" "house" "[I", Cond.fieldLink RX9 167 "SilentRentModel" "best" "I", Cond.fieldLink RX9 170 "SilentRentModel" "bestPrices" "I", Cond.fieldLink RX9 25 "SilentRentModel" "rooms" "[I", Cond.methodLink RX9 48 yX9_in, Cond.static yX9_in, Cond.initialized RX9, Cond.code yX9_in cX9_in 6 (some .boolean), Cond.methodLink RX9 175 yX9_finds, Cond.instanceMethod yX9_finds, Cond.selects RX9 yX9_finds yX9_finds, Cond.code yX9_finds cX9_finds 11 none, Cond.methodLink RX9 164 yX9_power, Cond.static yX9_power, Cond.code yX9_power cX9_power 4 (some .int), Cond.methodLink RX9 130 yX9_more, Cond.instanceMethod yX9_more, Cond.selects RX9 yX9_more yX9_more, Cond.code yX9_more cX9_more 3 (some .int), Cond.methodLink RX9 115 yX9_free, Cond.instanceMethod yX9_free, Cond.selects RX9 yX9_free yX9_free, Cond.code yX9_free cX9_free 2 (some .int)]
def wsX9_housed_r2 : List Cond := [Cond.methodLink RX9 119 yX9_must, Cond.instanceMethod yX9_must, Cond.selects RX9 yX9_must yX9_must, Cond.code yX9_must cX9_must 2 (some .int)]
def wsX9_housed : List Cond := .code yX9_housed cX9_housed 2 (some .int) :: ((wsX9_housed_r1 ++ wsX9_housed_r2) ++ wsX90)
def wsX9_many : List Cond := .code yX9_many cX9_many 3 (some .int) :: ([])
def wsX9_crowd : List Cond := .code yX9_crowd cX9_crowd 7 (some .int) :: ([.fieldLink RX9 16 "SilentRentModel" "house" "[I", .methodLink RX9 130 yX9_more, .instanceMethod yX9_more, .selects RX9 yX9_more yX9_more, .initialized RX9, .code yX9_more cX9_more 3 (some .int), .methodLink RX9 115 yX9_free, .instanceMethod yX9_free, .selects RX9 yX9_free yX9_free, .code yX9_free cX9_free 2 (some .int), .methodLink RX9 119 yX9_must, .instanceMethod yX9_must, .selects RX9 yX9_must yX9_must, .code yX9_must cX9_must 2 (some .int), .methodLink RX9 178 yX9_many, .static yX9_many, .code yX9_many cX9_many 3 (some .int)] ++ wsX90)
def wsX9_spareOf : List Cond := .code yX9_spareOf cX9_spareOf 2 (some .int) :: ([.methodLink RX9 122 yX9_roomOf, .instanceMethod yX9_roomOf, .selects RX9 yX9_roomOf yX9_roomOf, .initialized RX9, .code yX9_roomOf cX9_roomOf 2 (some .int), .fieldLink RX9 19 "SilentRentModel" "now" "[I", .methodLink RX9 130 yX9_more, .instanceMethod yX9_more, .selects RX9 yX9_more yX9_more, .code yX9_more cX9_more 3 (some .int), .fieldLink RX9 16 "SilentRentModel" "house" "[I", .methodLink RX9 115 yX9_free, .instanceMethod yX9_free, .selects RX9 yX9_free yX9_free, .code yX9_free cX9_free 2 (some .int), .methodLink RX9 119 yX9_must, .instanceMethod yX9_must, .selects RX9 yX9_must yX9_must, .code yX9_must cX9_must 2 (some .int)] ++ wsX90)
def wsX9_spare_r1 : List Cond := [Cond.constant RX9 184 (-1000000), Cond.methodLink RX9 137 yX9_isTenant, Cond.instanceMethod yX9_isTenant, Cond.selects RX9 yX9_isTenant yX9_isTenant, Cond.initialized RX9, Cond.code yX9_isTenant cX9_isTenant 2 (some .boolean), Cond.fieldLink RX9 16 "SilentRentModel" "house" "[I", Cond.methodLink RX9 48 yX9_in, Cond.static yX9_in, Cond.code yX9_in cX9_in 6 (some .boolean), Cond.methodLink RX9 181 yX9_spareOf, Cond.instanceMethod yX9_spareOf, Cond.selects RX9 yX9_spareOf yX9_spareOf, Cond.code yX9_spareOf cX9_spareOf 2 (some .int), Cond.methodLink RX9 122 yX9_roomOf, Cond.instanceMethod yX9_roomOf, Cond.selects RX9 yX9_roomOf yX9_roomOf, Cond.code yX9_roomOf cX9_roomOf 2 (some .int), Cond.fieldLink RX9 19 "SilentRentModel" "now" "[I", Cond.methodLink RX9 130 yX9_more, Cond.instanceMethod yX9_more, Cond.selects RX9 yX9_more yX9_more, Cond.code yX9_more cX9_more 3 (some .int), Cond.methodLink RX9 115 yX9_free]
def wsX9_spare_r2 : List Cond := [Cond.instanceMethod yX9_free, Cond.selects RX9 yX9_free yX9_free, Cond.code yX9_free cX9_free 2 (some .int), Cond.methodLink RX9 119 yX9_must, Cond.instanceMethod yX9_must, Cond.selects RX9 yX9_must yX9_must, Cond.code yX9_must cX9_must 2 (some .int)]
def wsX9_spare : List Cond := .code yX9_spare cX9_spare 2 (some .int) :: ((wsX9_spare_r1 ++ wsX9_spare_r2) ++ wsX90)
def wsX9_rest_r1 : List Cond := [Cond.fieldLink RX9 16 "SilentRentModel" "house" "[I", Cond.methodLink RX9 48 yX9_in, Cond.static yX9_in, Cond.initialized RX9, Cond.code yX9_in cX9_in 6 (some .boolean), Cond.methodLink RX9 181 yX9_spareOf, Cond.instanceMethod yX9_spareOf, Cond.selects RX9 yX9_spareOf yX9_spareOf, Cond.code yX9_spareOf cX9_spareOf 2 (some .int), Cond.methodLink RX9 122 yX9_roomOf, Cond.instanceMethod yX9_roomOf, Cond.selects RX9 yX9_roomOf yX9_roomOf, Cond.code yX9_roomOf cX9_roomOf 2 (some .int), Cond.fieldLink RX9 19 "SilentRentModel" "now" "[I", Cond.methodLink RX9 130 yX9_more, Cond.instanceMethod yX9_more, Cond.selects RX9 yX9_more yX9_more, Cond.code yX9_more cX9_more 3 (some .int), Cond.methodLink RX9 115 yX9_free, Cond.instanceMethod yX9_free, Cond.selects RX9 yX9_free yX9_free, Cond.code yX9_free cX9_free 2 (some .int), Cond.methodLink RX9 119 yX9_must, Cond.instanceMethod yX9_must]
def wsX9_rest_r2 : List Cond := [Cond.selects RX9 yX9_must yX9_must, Cond.code yX9_must cX9_must 2 (some .int)]
def wsX9_rest : List Cond := .code yX9_rest cX9_rest 8 (some .int) :: ((wsX9_rest_r1 ++ wsX9_rest_r2) ++ wsX90)
def wsX9_lacksOf : List Cond := .code yX9_lacksOf cX9_lacksOf 3 (some .int) :: ([.fieldLink RX9 16 "SilentRentModel" "house" "[I", .methodLink RX9 158 yX9_debts, .instanceMethod yX9_debts, .selects RX9 yX9_debts yX9_debts, .initialized RX9, .code yX9_debts cX9_debts 3 (some .int), .methodLink RX9 155 yX9_debt, .instanceMethod yX9_debt, .selects RX9 yX9_debt yX9_debt, .code yX9_debt cX9_debt 2 (some .int), .fieldLink RX9 19 "SilentRentModel" "now" "[I"] ++ wsX90)
def wsX9_settled : List Cond := .code yX9_settled cX9_settled 2 (some .int) :: ([.constant RX9 184 (-1000000), .methodLink RX9 137 yX9_isTenant, .instanceMethod yX9_isTenant, .selects RX9 yX9_isTenant yX9_isTenant, .initialized RX9, .code yX9_isTenant cX9_isTenant 2 (some .boolean), .fieldLink RX9 16 "SilentRentModel" "house" "[I", .methodLink RX9 48 yX9_in, .static yX9_in, .code yX9_in cX9_in 6 (some .boolean), .methodLink RX9 185 yX9_lacksOf, .instanceMethod yX9_lacksOf, .selects RX9 yX9_lacksOf yX9_lacksOf, .code yX9_lacksOf cX9_lacksOf 3 (some .int), .methodLink RX9 158 yX9_debts, .instanceMethod yX9_debts, .selects RX9 yX9_debts yX9_debts, .code yX9_debts cX9_debts 3 (some .int), .methodLink RX9 155 yX9_debt, .instanceMethod yX9_debt, .selects RX9 yX9_debt yX9_debt, .code yX9_debt cX9_debt 2 (some .int), .fieldLink RX9 19 "SilentRentModel" "now" "[I"] ++ wsX90)
def wsX9_payments : List Cond := .code yX9_payments cX9_payments 6 (some .int) :: ([.fieldLink RX9 16 "SilentRentModel" "house" "[I", .fieldLink RX9 28 "SilentRentModel" "groups" "[I", .methodLink RX9 185 yX9_lacksOf, .instanceMethod yX9_lacksOf, .selects RX9 yX9_lacksOf yX9_lacksOf, .initialized RX9, .code yX9_lacksOf cX9_lacksOf 3 (some .int), .methodLink RX9 158 yX9_debts, .instanceMethod yX9_debts, .selects RX9 yX9_debts yX9_debts, .code yX9_debts cX9_debts 3 (some .int), .methodLink RX9 155 yX9_debt, .instanceMethod yX9_debt, .selects RX9 yX9_debt yX9_debt, .code yX9_debt cX9_debt 2 (some .int), .fieldLink RX9 19 "SilentRentModel" "now" "[I", .methodLink RX9 178 yX9_many, .static yX9_many, .code yX9_many cX9_many 3 (some .int)] ++ wsX90)
def wsX9_hear : List Cond := .code yX9_hear cX9_hear 4 (some .int) :: ([.fieldLink RX9 16 "SilentRentModel" "house" "[I"] ++ wsX90)
def wsX9_know : List Cond := .code yX9_know cX9_know 5 (some .int) :: ([.methodLink RX9 188 yX9_hear, .instanceMethod yX9_hear, .selects RX9 yX9_hear yX9_hear, .initialized RX9, .code yX9_hear cX9_hear 4 (some .int), .fieldLink RX9 16 "SilentRentModel" "house" "[I"] ++ wsX90)
def wsX9_told : List Cond := .code yX9_told cX9_told 6 (some .int) :: ([.fieldLink RX9 16 "SilentRentModel" "house" "[I", .methodLink RX9 137 yX9_isTenant, .instanceMethod yX9_isTenant, .selects RX9 yX9_isTenant yX9_isTenant, .initialized RX9, .code yX9_isTenant cX9_isTenant 2 (some .boolean), .methodLink RX9 48 yX9_in, .static yX9_in, .code yX9_in cX9_in 6 (some .boolean), .methodLink RX9 178 yX9_many, .static yX9_many, .code yX9_many cX9_many 3 (some .int), .methodLink RX9 191 yX9_know, .instanceMethod yX9_know, .selects RX9 yX9_know yX9_know, .code yX9_know cX9_know 5 (some .int), .methodLink RX9 188 yX9_hear, .instanceMethod yX9_hear, .selects RX9 yX9_hear yX9_hear, .code yX9_hear cX9_hear 4 (some .int)] ++ wsX90)
def wsX9_rounds : List Cond := .code yX9_rounds cX9_rounds 4 (some .int) :: ([.fieldLink RX9 16 "SilentRentModel" "house" "[I", .methodLink RX9 137 yX9_isTenant, .instanceMethod yX9_isTenant, .selects RX9 yX9_isTenant yX9_isTenant, .initialized RX9, .code yX9_isTenant cX9_isTenant 2 (some .boolean), .methodLink RX9 48 yX9_in, .static yX9_in, .code yX9_in cX9_in 6 (some .boolean), .methodLink RX9 188 yX9_hear, .instanceMethod yX9_hear, .selects RX9 yX9_hear yX9_hear, .code yX9_hear cX9_hear 4 (some .int)] ++ wsX90)
def wsX9_watch : List Cond := .code yX9_watch cX9_watch 6 (some .int) :: ([.fieldLink RX9 16 "SilentRentModel" "house" "[I", .methodLink RX9 48 yX9_in, .static yX9_in, .initialized RX9, .code yX9_in cX9_in 6 (some .boolean), .methodLink RX9 145 yX9_lips, .instanceMethod yX9_lips, .selects RX9 yX9_lips yX9_lips, .code yX9_lips cX9_lips 2 (some .int), .methodLink RX9 178 yX9_many, .static yX9_many, .code yX9_many cX9_many 3 (some .int)] ++ wsX90)
def wsX9_odds : List Cond := .code yX9_odds cX9_odds 13 (some .long) :: ([.constantLong RX9 194 (10), .constantLong RX9 148 (-1), .fieldLink RX9 16 "SilentRentModel" "house" "[I", .methodLink RX9 48 yX9_in, .static yX9_in, .initialized RX9, .code yX9_in cX9_in 6 (some .boolean), .methodLink RX9 122 yX9_roomOf, .instanceMethod yX9_roomOf, .selects RX9 yX9_roomOf yX9_roomOf, .code yX9_roomOf cX9_roomOf 2 (some .int), .fieldLink RX9 19 "SilentRentModel" "now" "[I", .methodLink RX9 130 yX9_more, .instanceMethod yX9_more, .selects RX9 yX9_more yX9_more, .code yX9_more cX9_more 3 (some .int), .methodLink RX9 115 yX9_free, .instanceMethod yX9_free, .selects RX9 yX9_free yX9_free, .code yX9_free cX9_free 2 (some .int), .methodLink RX9 119 yX9_must, .instanceMethod yX9_must, .selects RX9 yX9_must yX9_must, .code yX9_must cX9_must 2 (some .int)] ++ wsX90)
def wsX9_book : List Cond := .code yX9_book cX9_book 3 (some .int) :: ([.constantLong RX9 153 (24), .fieldLink RX9 109 "SilentRentModel" "lines" "I", .fieldLink RX9 31 "SilentRentModel" "who" "[I", .fieldLink RX9 34 "SilentRentModel" "lacked" "[I", .methodLink RX9 137 yX9_isTenant, .instanceMethod yX9_isTenant, .selects RX9 yX9_isTenant yX9_isTenant, .initialized RX9, .code yX9_isTenant cX9_isTenant 2 (some .boolean), .fieldLink RX9 16 "SilentRentModel" "house" "[I", .methodLink RX9 48 yX9_in, .static yX9_in, .code yX9_in cX9_in 6 (some .boolean)] ++ wsX90)
def wsX9_burn : List Cond := .code yX9_burn cX9_burn 2 (some .int) :: ([.fieldLink RX9 109 "SilentRentModel" "lines" "I"] ++ wsX90)
def wsX9_isSo : List Cond := .code yX9_isSo cX9_isSo 6 (some .boolean) :: ([.fieldLink RX9 109 "SilentRentModel" "lines" "I", .fieldLink RX9 31 "SilentRentModel" "who" "[I", .fieldLink RX9 34 "SilentRentModel" "lacked" "[I", .methodLink RX9 130 yX9_more, .instanceMethod yX9_more, .selects RX9 yX9_more yX9_more, .initialized RX9, .code yX9_more cX9_more 3 (some .int), .fieldLink RX9 16 "SilentRentModel" "house" "[I", .methodLink RX9 115 yX9_free, .instanceMethod yX9_free, .selects RX9 yX9_free yX9_free, .code yX9_free cX9_free 2 (some .int), .methodLink RX9 119 yX9_must, .instanceMethod yX9_must, .selects RX9 yX9_must yX9_must, .code yX9_must cX9_must 2 (some .int)] ++ wsX90)
def wsX9_fit_r1 : List Cond := [Cond.fieldLink RX9 16 "SilentRentModel" "house" "[I", Cond.fieldLink RX9 196 "SilentRentModel" "ways" "I", Cond.fieldLink RX9 25 "SilentRentModel" "rooms" "[I", Cond.fieldLink RX9 37 "SilentRentModel" "some" "[I", Cond.methodLink RX9 164 yX9_power, Cond.static yX9_power, Cond.initialized RX9, Cond.code yX9_power cX9_power 4 (some .int), Cond.methodLink RX9 199 yX9_isSo, Cond.instanceMethod yX9_isSo, Cond.selects RX9 yX9_isSo yX9_isSo, Cond.code yX9_isSo cX9_isSo 6 (some .boolean), Cond.fieldLink RX9 109 "SilentRentModel" "lines" "I", Cond.fieldLink RX9 31 "SilentRentModel" "who" "[I", Cond.fieldLink RX9 34 "SilentRentModel" "lacked" "[I", Cond.methodLink RX9 130 yX9_more, Cond.instanceMethod yX9_more, Cond.selects RX9 yX9_more yX9_more, Cond.code yX9_more cX9_more 3 (some .int), Cond.methodLink RX9 115 yX9_free, Cond.instanceMethod yX9_free, Cond.selects RX9 yX9_free yX9_free, Cond.code yX9_free cX9_free 2 (some .int), Cond.methodLink RX9 119 yX9_must]
def wsX9_fit_r2 : List Cond := [Cond.instanceMethod yX9_must, Cond.selects RX9 yX9_must yX9_must, Cond.code yX9_must cX9_must 2 (some .int)]
def wsX9_fit : List Cond := .code yX9_fit cX9_fit 8 none :: ((wsX9_fit_r1 ++ wsX9_fit_r2) ++ wsX90)
def wsX9_fits_r1 : List Cond := [Cond.constantLong RX9 148 (-1), Cond.fieldLink RX9 16 "SilentRentModel" "house" "[I", Cond.fieldLink RX9 196 "SilentRentModel" "ways" "I", Cond.fieldLink RX9 25 "SilentRentModel" "rooms" "[I", Cond.methodLink RX9 48 yX9_in, Cond.static yX9_in, Cond.initialized RX9, Cond.code yX9_in cX9_in 6 (some .boolean), Cond.methodLink RX9 202 yX9_fit, Cond.instanceMethod yX9_fit, Cond.selects RX9 yX9_fit yX9_fit, Cond.code yX9_fit cX9_fit 8 none, Cond.fieldLink RX9 37 "SilentRentModel" "some" "[I", Cond.methodLink RX9 164 yX9_power, Cond.static yX9_power, Cond.code yX9_power cX9_power 4 (some .int), Cond.methodLink RX9 199 yX9_isSo, Cond.instanceMethod yX9_isSo, Cond.selects RX9 yX9_isSo yX9_isSo, Cond.code yX9_isSo cX9_isSo 6 (some .boolean), Cond.fieldLink RX9 109 "SilentRentModel" "lines" "I", Cond.fieldLink RX9 31 "SilentRentModel" "who" "[I", Cond.fieldLink RX9 34 "SilentRentModel" "lacked" "[I", Cond.methodLink RX9 130 yX9_more]
def wsX9_fits_r2 : List Cond := [Cond.instanceMethod yX9_more, Cond.selects RX9 yX9_more yX9_more, Cond.code yX9_more cX9_more 3 (some .int), Cond.methodLink RX9 115 yX9_free, Cond.instanceMethod yX9_free, Cond.selects RX9 yX9_free yX9_free, Cond.code yX9_free cX9_free 2 (some .int), Cond.methodLink RX9 119 yX9_must, Cond.instanceMethod yX9_must, Cond.selects RX9 yX9_must yX9_must, Cond.code yX9_must cX9_must 2 (some .int)]
def wsX9_fits : List Cond := .code yX9_fits cX9_fits 2 (some .int) :: ((wsX9_fits_r1 ++ wsX9_fits_r2) ++ wsX90)
def wsX9_may_r1 : List Cond := [Cond.fieldLink RX9 37 "SilentRentModel" "some" "[I", Cond.methodLink RX9 137 yX9_isTenant, Cond.instanceMethod yX9_isTenant, Cond.selects RX9 yX9_isTenant yX9_isTenant, Cond.initialized RX9, Cond.code yX9_isTenant cX9_isTenant 2 (some .boolean), Cond.fieldLink RX9 16 "SilentRentModel" "house" "[I", Cond.methodLink RX9 48 yX9_in, Cond.static yX9_in, Cond.code yX9_in cX9_in 6 (some .boolean), Cond.methodLink RX9 202 yX9_fit, Cond.instanceMethod yX9_fit, Cond.selects RX9 yX9_fit yX9_fit, Cond.code yX9_fit cX9_fit 8 none, Cond.fieldLink RX9 196 "SilentRentModel" "ways" "I", Cond.fieldLink RX9 25 "SilentRentModel" "rooms" "[I", Cond.methodLink RX9 164 yX9_power, Cond.static yX9_power, Cond.code yX9_power cX9_power 4 (some .int), Cond.methodLink RX9 199 yX9_isSo, Cond.instanceMethod yX9_isSo, Cond.selects RX9 yX9_isSo yX9_isSo, Cond.code yX9_isSo cX9_isSo 6 (some .boolean), Cond.fieldLink RX9 109 "SilentRentModel" "lines" "I"]
def wsX9_may_r2 : List Cond := [Cond.fieldLink RX9 31 "SilentRentModel" "who" "[I", Cond.fieldLink RX9 34 "SilentRentModel" "lacked" "[I", Cond.methodLink RX9 130 yX9_more, Cond.instanceMethod yX9_more, Cond.selects RX9 yX9_more yX9_more, Cond.code yX9_more cX9_more 3 (some .int), Cond.methodLink RX9 115 yX9_free, Cond.instanceMethod yX9_free, Cond.selects RX9 yX9_free yX9_free, Cond.code yX9_free cX9_free 2 (some .int), Cond.methodLink RX9 119 yX9_must, Cond.instanceMethod yX9_must, Cond.selects RX9 yX9_must yX9_must, Cond.code yX9_must cX9_must 2 (some .int)]
def wsX9_may : List Cond := .code yX9_may cX9_may 2 (some .int) :: ((wsX9_may_r1 ++ wsX9_may_r2) ++ wsX90)
def wsX9_mark_r1 : List Cond := [Cond.constantLong RX9 205 (5), Cond.constant RX9 184 (-1000000), Cond.fieldLink RX9 207 "SilentRentModel" "trace" "J", Cond.constantLong RX9 211 (11), Cond.constantLong RX9 213 (101), Cond.constantLong RX9 215 (1011), Cond.constantLong RX9 217 (10101), Cond.constantLong RX9 219 (100001), Cond.fieldLink RX9 16 "SilentRentModel" "house" "[I", Cond.fieldLink RX9 19 "SilentRentModel" "now" "[I", Cond.methodLink RX9 48 yX9_in, Cond.static yX9_in, Cond.initialized RX9, Cond.code yX9_in cX9_in 6 (some .boolean), Cond.methodLink RX9 137 yX9_isTenant, Cond.instanceMethod yX9_isTenant, Cond.selects RX9 yX9_isTenant yX9_isTenant, Cond.code yX9_isTenant cX9_isTenant 2 (some .boolean), Cond.methodLink RX9 155 yX9_debt, Cond.instanceMethod yX9_debt, Cond.selects RX9 yX9_debt yX9_debt, Cond.code yX9_debt cX9_debt 2 (some .int), Cond.methodLink RX9 119 yX9_must, Cond.instanceMethod yX9_must]
def wsX9_mark_r2 : List Cond := [Cond.selects RX9 yX9_must yX9_must, Cond.code yX9_must cX9_must 2 (some .int)]
def wsX9_mark : List Cond := .code yX9_mark cX9_mark 4 (some .int) :: ((wsX9_mark_r1 ++ wsX9_mark_r2) ++ wsX90)
def wsX9_trace : List Cond := .code yX9_trace cX9_trace 1 (some .long) :: ([.fieldLink RX9 207 "SilentRentModel" "trace" "J"] ++ wsX90)
def wsX9_keep : List Cond := .code yX9_keep cX9_keep 4 (some .int) :: ([.fieldLink RX9 40 "SilentRentModel" "kept" "[I", .fieldLink RX9 112 "SilentRentModel" "undos" "I", .fieldLink RX9 19 "SilentRentModel" "now" "[I", .fieldLink RX9 22 "SilentRentModel" "undone" "[I", .methodLink RX9 48 yX9_in, .static yX9_in, .initialized RX9, .code yX9_in cX9_in 6 (some .boolean)] ++ wsX90)
def wsX9_back : List Cond := .code yX9_back cX9_back 4 (some .int) :: ([.fieldLink RX9 40 "SilentRentModel" "kept" "[I", .fieldLink RX9 112 "SilentRentModel" "undos" "I", .fieldLink RX9 19 "SilentRentModel" "now" "[I", .fieldLink RX9 22 "SilentRentModel" "undone" "[I", .methodLink RX9 48 yX9_in, .static yX9_in, .initialized RX9, .code yX9_in cX9_in 6 (some .boolean)] ++ wsX90)
def wsX9_count : List Cond := .code yX9_count cX9_count 2 (some .int) :: ([.fieldLink RX9 16 "SilentRentModel" "house" "[I", .fieldLink RX9 109 "SilentRentModel" "lines" "I", .fieldLink RX9 112 "SilentRentModel" "undos" "I", .fieldLink RX9 52 "SilentRentModel" "size" "I"] ++ wsX90)
def wsJ9_max_7cf53 : List Cond := .code yJ9_max_7cf53 cJ9_max_7cf53 2 (some .int) :: ([])
def wsJ9_min_7cf53 : List Cond := .code yJ9_min_7cf53 cJ9_min_7cf53 2 (some .int) :: ([])
theorem dX0_init_0 : decode cX0_init 0 = .ok (.aload_n 0, 1) := by decide +kernel
theorem dX0_init_1 : decode cX0_init 1 = .ok (.invokespecial 3, 3) := by decide +kernel
theorem dX0_init_4 : decode cX0_init 4 = .ok (.aload_n 0, 1) := by decide +kernel
theorem dX0_init_5 : decode cX0_init 5 = .ok (.bipush 6, 2) := by decide +kernel
theorem dX0_init_7 : decode cX0_init 7 = .ok (.newarray .int, 2) := by decide +kernel
theorem dX0_init_9 : decode cX0_init 9 = .ok (.putfield 9, 3) := by decide +kernel
theorem dX0_init_12 : decode cX0_init 12 = .ok (.aload_n 0, 1) := by decide +kernel
theorem dX0_init_13 : decode cX0_init 13 = .ok (.bipush 6, 2) := by decide +kernel
theorem dX0_init_15 : decode cX0_init 15 = .ok (.newarray .int, 2) := by decide +kernel
theorem dX0_init_17 : decode cX0_init 17 = .ok (.putfield 15, 3) := by decide +kernel
theorem dX0_init_20 : decode cX0_init 20 = .ok (.return_, 1) := by decide +kernel
set_option maxRecDepth 20000 in
theorem ggX0_roomsThatAgree_X2_keepsSilent : GoodIn wsX0_roomsThatAgree wsX2_keepsSilent := goodIn_r _ [11, 12, 13, 14, 15, 10, 16, 17, 26, 27, 28, 29, 30, 31, 32, 33, 34, 35] (by decide +kernel) (by decide +kernel)
set_option maxRecDepth 20000 in
theorem gX0_roomsThatAgree_X2_keepsSilent : GoodIn wsX0_roomsThatAgree (wsV RX0 27 RX2 yX2_keepsSilent wsX2_keepsSilent) := goodIn_app (goodIn_of _ (by decide +kernel)) ggX0_roomsThatAgree_X2_keepsSilent
set_option maxRecDepth 20000 in
theorem ggX0_roomsThatAgree_X0_agrees : GoodIn wsX0_roomsThatAgree wsX0_agrees := goodIn_r _ [22, 23, 24, 25, 36, 37, 38] (by decide +kernel) (by decide +kernel)
set_option maxRecDepth 20000 in
theorem gX0_roomsThatAgree_X0_agrees : GoodIn wsX0_roomsThatAgree (wsV RX0 37 RX0 yX0_agrees wsX0_agrees) := goodIn_app (goodIn_of _ (by decide +kernel)) ggX0_roomsThatAgree_X0_agrees
theorem dX0_roomsThatAgree_0 : decode cX0_roomsThatAgree 0 = .ok (.iconst 0, 1) := by decide +kernel
theorem dX0_roomsThatAgree_1 : decode cX0_roomsThatAgree 1 = .ok (.istore_n 3, 1) := by decide +kernel
theorem dX0_roomsThatAgree_2 : decode cX0_roomsThatAgree 2 = .ok (.iconst 0, 1) := by decide +kernel
theorem dX0_roomsThatAgree_3 : decode cX0_roomsThatAgree 3 = .ok (.istore 4, 2) := by decide +kernel
theorem dX0_roomsThatAgree_5 : decode cX0_roomsThatAgree 5 = .ok (.iload 4, 2) := by decide +kernel
theorem dX0_roomsThatAgree_7 : decode cX0_roomsThatAgree 7 = .ok (.aload_n 1, 1) := by decide +kernel
theorem dX0_roomsThatAgree_8 : decode cX0_roomsThatAgree 8 = .ok (.getfield 18, 3) := by decide +kernel
theorem dX0_roomsThatAgree_11 : decode cX0_roomsThatAgree 11 = .ok (.if_icmp .ge 41, 3) := by decide +kernel
theorem dX0_roomsThatAgree_14 : decode cX0_roomsThatAgree 14 = .ok (.aload_n 0, 1) := by decide +kernel
theorem dX0_roomsThatAgree_15 : decode cX0_roomsThatAgree 15 = .ok (.iload_n 2, 1) := by decide +kernel
theorem dX0_roomsThatAgree_16 : decode cX0_roomsThatAgree 16 = .ok (.iconst 0, 1) := by decide +kernel
theorem dX0_roomsThatAgree_17 : decode cX0_roomsThatAgree 17 = .ok (.aload_n 1, 1) := by decide +kernel
theorem dX0_roomsThatAgree_18 : decode cX0_roomsThatAgree 18 = .ok (.getfield 24, 3) := by decide +kernel
theorem dX0_roomsThatAgree_21 : decode cX0_roomsThatAgree 21 = .ok (.iload 4, 2) := by decide +kernel
theorem dX0_roomsThatAgree_23 : decode cX0_roomsThatAgree 23 = .ok (.iaload, 1) := by decide +kernel
theorem dX0_roomsThatAgree_24 : decode cX0_roomsThatAgree 24 = .ok (.aload_n 1, 1) := by decide +kernel
theorem dX0_roomsThatAgree_25 : decode cX0_roomsThatAgree 25 = .ok (.iload_n 2, 1) := by decide +kernel
theorem dX0_roomsThatAgree_26 : decode cX0_roomsThatAgree 26 = .ok (.invokevirtual 27, 3) := by decide +kernel
theorem dX0_roomsThatAgree_29 : decode cX0_roomsThatAgree 29 = .ok (.isub, 1) := by decide +kernel
theorem dX0_roomsThatAgree_30 : decode cX0_roomsThatAgree 30 = .ok (.invokestatic 31, 3) := by decide +kernel
theorem dX0_roomsThatAgree_33 : decode cX0_roomsThatAgree 33 = .ok (.invokevirtual 37, 3) := by decide +kernel
theorem dX0_roomsThatAgree_36 : decode cX0_roomsThatAgree 36 = .ok (.ifCond .eq 10, 3) := by decide +kernel
theorem dX0_roomsThatAgree_39 : decode cX0_roomsThatAgree 39 = .ok (.iload_n 3, 1) := by decide +kernel
theorem dX0_roomsThatAgree_40 : decode cX0_roomsThatAgree 40 = .ok (.iconst 1, 1) := by decide +kernel
theorem dX0_roomsThatAgree_41 : decode cX0_roomsThatAgree 41 = .ok (.iload 4, 2) := by decide +kernel
theorem dX0_roomsThatAgree_43 : decode cX0_roomsThatAgree 43 = .ok (.ishl, 1) := by decide +kernel
theorem dX0_roomsThatAgree_44 : decode cX0_roomsThatAgree 44 = .ok (.ior, 1) := by decide +kernel
theorem dX0_roomsThatAgree_45 : decode cX0_roomsThatAgree 45 = .ok (.istore_n 3, 1) := by decide +kernel
theorem dX0_roomsThatAgree_46 : decode cX0_roomsThatAgree 46 = .ok (.iinc 4 1, 3) := by decide +kernel
theorem dX0_roomsThatAgree_49 : decode cX0_roomsThatAgree 49 = .ok (.goto (-44), 3) := by decide +kernel
theorem dX0_roomsThatAgree_52 : decode cX0_roomsThatAgree 52 = .ok (.iload_n 3, 1) := by decide +kernel
theorem dX0_roomsThatAgree_53 : decode cX0_roomsThatAgree 53 = .ok (.ireturn, 1) := by decide +kernel
theorem dX0_agrees_0 : decode cX0_agrees 0 = .ok (.iconst 0, 1) := by decide +kernel
theorem dX0_agrees_1 : decode cX0_agrees 1 = .ok (.istore_n 3, 1) := by decide +kernel
theorem dX0_agrees_2 : decode cX0_agrees 2 = .ok (.iload_n 3, 1) := by decide +kernel
theorem dX0_agrees_3 : decode cX0_agrees 3 = .ok (.aload_n 0, 1) := by decide +kernel
theorem dX0_agrees_4 : decode cX0_agrees 4 = .ok (.getfield 41, 3) := by decide +kernel
theorem dX0_agrees_7 : decode cX0_agrees 7 = .ok (.if_icmp .ge 31, 3) := by decide +kernel
theorem dX0_agrees_10 : decode cX0_agrees 10 = .ok (.aload_n 0, 1) := by decide +kernel
theorem dX0_agrees_11 : decode cX0_agrees 11 = .ok (.getfield 9, 3) := by decide +kernel
theorem dX0_agrees_14 : decode cX0_agrees 14 = .ok (.iload_n 3, 1) := by decide +kernel
theorem dX0_agrees_15 : decode cX0_agrees 15 = .ok (.iaload, 1) := by decide +kernel
theorem dX0_agrees_16 : decode cX0_agrees 16 = .ok (.iload_n 1, 1) := by decide +kernel
theorem dX0_agrees_17 : decode cX0_agrees 17 = .ok (.if_icmp .ne 15, 3) := by decide +kernel
theorem dX0_agrees_20 : decode cX0_agrees 20 = .ok (.aload_n 0, 1) := by decide +kernel
theorem dX0_agrees_21 : decode cX0_agrees 21 = .ok (.getfield 15, 3) := by decide +kernel
theorem dX0_agrees_24 : decode cX0_agrees 24 = .ok (.iload_n 3, 1) := by decide +kernel
theorem dX0_agrees_25 : decode cX0_agrees 25 = .ok (.iaload, 1) := by decide +kernel
theorem dX0_agrees_26 : decode cX0_agrees 26 = .ok (.iload_n 2, 1) := by decide +kernel
theorem dX0_agrees_27 : decode cX0_agrees 27 = .ok (.if_icmp .eq 5, 3) := by decide +kernel
theorem dX0_agrees_30 : decode cX0_agrees 30 = .ok (.iconst 0, 1) := by decide +kernel
theorem dX0_agrees_31 : decode cX0_agrees 31 = .ok (.ireturn, 1) := by decide +kernel
theorem dX0_agrees_32 : decode cX0_agrees 32 = .ok (.iinc 3 1, 3) := by decide +kernel
theorem dX0_agrees_35 : decode cX0_agrees 35 = .ok (.goto (-33), 3) := by decide +kernel
theorem dX0_agrees_38 : decode cX0_agrees 38 = .ok (.iconst 1, 1) := by decide +kernel
theorem dX0_agrees_39 : decode cX0_agrees 39 = .ok (.ireturn, 1) := by decide +kernel
theorem dX1_init_0 : decode cX1_init 0 = .ok (.aload_n 0, 1) := by decide +kernel
theorem dX1_init_1 : decode cX1_init 1 = .ok (.invokespecial 3, 3) := by decide +kernel
theorem dX1_init_4 : decode cX1_init 4 = .ok (.aload_n 0, 1) := by decide +kernel
theorem dX1_init_5 : decode cX1_init 5 = .ok (.bipush 64, 2) := by decide +kernel
theorem dX1_init_7 : decode cX1_init 7 = .ok (.newarray .int, 2) := by decide +kernel
theorem dX1_init_9 : decode cX1_init 9 = .ok (.putfield 9, 3) := by decide +kernel
theorem dX1_init_12 : decode cX1_init 12 = .ok (.aload_n 0, 1) := by decide +kernel
theorem dX1_init_13 : decode cX1_init 13 = .ok (.bipush 64, 2) := by decide +kernel
theorem dX1_init_15 : decode cX1_init 15 = .ok (.newarray .boolean, 2) := by decide +kernel
theorem dX1_init_17 : decode cX1_init 17 = .ok (.putfield 15, 3) := by decide +kernel
theorem dX1_init_20 : decode cX1_init 20 = .ok (.aload_n 0, 1) := by decide +kernel
theorem dX1_init_21 : decode cX1_init 21 = .ok (.bipush 6, 2) := by decide +kernel
theorem dX1_init_23 : decode cX1_init 23 = .ok (.newarray .int, 2) := by decide +kernel
theorem dX1_init_25 : decode cX1_init 25 = .ok (.putfield 19, 3) := by decide +kernel
theorem dX1_init_28 : decode cX1_init 28 = .ok (.return_, 1) := by decide +kernel
set_option maxRecDepth 20000 in
theorem ggX1_solve_X0_roomsThatAgree : GoodIn wsX1_solve wsX0_roomsThatAgree := goodIn_r _ [11, 12, 13, 14, 15, 16, 17, 18, 19, 20, 21, 22, 23, 24, 25, 26, 27, 28, 29, 30, 31, 10, 32, 33, 34, 35, 52, 53, 54, 55, 56, 57, 58, 59, 60, 61, 66, 67, 68] (by decide +kernel) (by decide +kernel)
set_option maxRecDepth 20000 in
theorem gX1_solve_X0_roomsThatAgree : GoodIn wsX1_solve (wsV RX1 32 RX0 yX0_roomsThatAgree wsX0_roomsThatAgree) := goodIn_app (goodIn_of _ (by decide +kernel)) ggX1_solve_X0_roomsThatAgree
set_option maxRecDepth 20000 in
theorem ggX1_solve_J6_bitCount_0f7a4 : GoodIn wsX1_solve wsJ6_bitCount_0f7a4 := goodIn_r _ [39, 40, 41, 42] (by decide +kernel) (by decide +kernel)
set_option maxRecDepth 20000 in
theorem gX1_solve_J6_bitCount_0f7a4 : GoodIn wsX1_solve (va_wsS RX1 38 yJ6_bitCount_0f7a4 wsJ6_bitCount_0f7a4) := goodIn_app (goodIn_of _ (by decide +kernel)) ggX1_solve_J6_bitCount_0f7a4
set_option maxRecDepth 20000 in
theorem ggX1_solve_X1_waysOn : GoodIn wsX1_solve wsX1_waysOn := goodIn_r _ [47, 2, 4, 5, 62, 63, 64, 65] (by decide +kernel) (by decide +kernel)
set_option maxRecDepth 20000 in
theorem gX1_solve_X1_waysOn : GoodIn wsX1_solve (wsV RX1 44 RX1 yX1_waysOn wsX1_waysOn) := goodIn_app (goodIn_of _ (by decide +kernel)) ggX1_solve_X1_waysOn
set_option maxRecDepth 20000 in
theorem ggX1_solve_X1_reachFrom : GoodIn wsX1_solve wsX1_reachFrom := goodIn_r _ [51, 2, 4, 6, 62, 63, 64, 65] (by decide +kernel) (by decide +kernel)
set_option maxRecDepth 20000 in
theorem gX1_solve_X1_reachFrom : GoodIn wsX1_solve (wsV RX1 48 RX1 yX1_reachFrom wsX1_reachFrom) := goodIn_app (goodIn_of _ (by decide +kernel)) ggX1_solve_X1_reachFrom
theorem dX1_solve_0 : decode cX1_solve 0 = .ok (.aload_n 0, 1) := by decide +kernel
theorem dX1_solve_1 : decode cX1_solve 1 = .ok (.aload_n 1, 1) := by decide +kernel
theorem dX1_solve_2 : decode cX1_solve 2 = .ok (.getfield 22, 3) := by decide +kernel
theorem dX1_solve_5 : decode cX1_solve 5 = .ok (.putfield 28, 3) := by decide +kernel
theorem dX1_solve_8 : decode cX1_solve 8 = .ok (.iconst 0, 1) := by decide +kernel
theorem dX1_solve_9 : decode cX1_solve 9 = .ok (.istore_n 3, 1) := by decide +kernel
theorem dX1_solve_10 : decode cX1_solve 10 = .ok (.iload_n 3, 1) := by decide +kernel
theorem dX1_solve_11 : decode cX1_solve 11 = .ok (.aload_n 1, 1) := by decide +kernel
theorem dX1_solve_12 : decode cX1_solve 12 = .ok (.getfield 29, 3) := by decide +kernel
theorem dX1_solve_15 : decode cX1_solve 15 = .ok (.if_icmp .ge 21, 3) := by decide +kernel
theorem dX1_solve_18 : decode cX1_solve 18 = .ok (.aload_n 0, 1) := by decide +kernel
theorem dX1_solve_19 : decode cX1_solve 19 = .ok (.getfield 19, 3) := by decide +kernel
theorem dX1_solve_22 : decode cX1_solve 22 = .ok (.iload_n 3, 1) := by decide +kernel
theorem dX1_solve_23 : decode cX1_solve 23 = .ok (.aload_n 2, 1) := by decide +kernel
theorem dX1_solve_24 : decode cX1_solve 24 = .ok (.aload_n 1, 1) := by decide +kernel
theorem dX1_solve_25 : decode cX1_solve 25 = .ok (.iload_n 3, 1) := by decide +kernel
theorem dX1_solve_26 : decode cX1_solve 26 = .ok (.invokevirtual 32, 3) := by decide +kernel
theorem dX1_solve_29 : decode cX1_solve 29 = .ok (.iastore, 1) := by decide +kernel
theorem dX1_solve_30 : decode cX1_solve 30 = .ok (.iinc 3 1, 3) := by decide +kernel
theorem dX1_solve_33 : decode cX1_solve 33 = .ok (.goto (-23), 3) := by decide +kernel
theorem dX1_solve_36 : decode cX1_solve 36 = .ok (.iconst 1, 1) := by decide +kernel
theorem dX1_solve_37 : decode cX1_solve 37 = .ok (.aload_n 0, 1) := by decide +kernel
theorem dX1_solve_38 : decode cX1_solve 38 = .ok (.getfield 28, 3) := by decide +kernel
theorem dX1_solve_41 : decode cX1_solve 41 = .ok (.ishl, 1) := by decide +kernel
theorem dX1_solve_42 : decode cX1_solve 42 = .ok (.iconst 1, 1) := by decide +kernel
theorem dX1_solve_43 : decode cX1_solve 43 = .ok (.isub, 1) := by decide +kernel
theorem dX1_solve_44 : decode cX1_solve 44 = .ok (.istore_n 3, 1) := by decide +kernel
theorem dX1_solve_45 : decode cX1_solve 45 = .ok (.iload_n 3, 1) := by decide +kernel
theorem dX1_solve_46 : decode cX1_solve 46 = .ok (.ifCond .lt 56, 3) := by decide +kernel
theorem dX1_solve_49 : decode cX1_solve 49 = .ok (.iload_n 3, 1) := by decide +kernel
theorem dX1_solve_50 : decode cX1_solve 50 = .ok (.invokestatic 38, 3) := by decide +kernel
theorem dX1_solve_53 : decode cX1_solve 53 = .ok (.istore 4, 2) := by decide +kernel
theorem dX1_solve_55 : decode cX1_solve 55 = .ok (.aload_n 0, 1) := by decide +kernel
theorem dX1_solve_56 : decode cX1_solve 56 = .ok (.getfield 9, 3) := by decide +kernel
theorem dX1_solve_59 : decode cX1_solve 59 = .ok (.iload_n 3, 1) := by decide +kernel
theorem dX1_solve_60 : decode cX1_solve 60 = .ok (.iload 4, 2) := by decide +kernel
theorem dX1_solve_62 : decode cX1_solve 62 = .ok (.aload_n 1, 1) := by decide +kernel
theorem dX1_solve_63 : decode cX1_solve 63 = .ok (.getfield 29, 3) := by decide +kernel
theorem dX1_solve_66 : decode cX1_solve 66 = .ok (.if_icmp .ge 13, 3) := by decide +kernel
theorem dX1_solve_69 : decode cX1_solve 69 = .ok (.aload_n 0, 1) := by decide +kernel
theorem dX1_solve_70 : decode cX1_solve 70 = .ok (.iload 4, 2) := by decide +kernel
theorem dX1_solve_72 : decode cX1_solve 72 = .ok (.iload_n 3, 1) := by decide +kernel
theorem dX1_solve_73 : decode cX1_solve 73 = .ok (.invokevirtual 44, 3) := by decide +kernel
theorem dX1_solve_76 : decode cX1_solve 76 = .ok (.goto 4, 3) := by decide +kernel
theorem dX1_solve_79 : decode cX1_solve 79 = .ok (.iconst 1, 1) := by decide +kernel
theorem dX1_solve_80 : decode cX1_solve 80 = .ok (.iastore, 1) := by decide +kernel
theorem dX1_solve_81 : decode cX1_solve 81 = .ok (.aload_n 0, 1) := by decide +kernel
theorem dX1_solve_82 : decode cX1_solve 82 = .ok (.getfield 15, 3) := by decide +kernel
theorem dX1_solve_85 : decode cX1_solve 85 = .ok (.iload_n 3, 1) := by decide +kernel
theorem dX1_solve_86 : decode cX1_solve 86 = .ok (.iload_n 3, 1) := by decide +kernel
theorem dX1_solve_87 : decode cX1_solve 87 = .ok (.ifCond .ne 7, 3) := by decide +kernel
theorem dX1_solve_90 : decode cX1_solve 90 = .ok (.iconst 1, 1) := by decide +kernel
theorem dX1_solve_91 : decode cX1_solve 91 = .ok (.goto 4, 3) := by decide +kernel
theorem dX1_solve_94 : decode cX1_solve 94 = .ok (.iconst 0, 1) := by decide +kernel
theorem dX1_solve_95 : decode cX1_solve 95 = .ok (.bastore, 1) := by decide +kernel
theorem dX1_solve_96 : decode cX1_solve 96 = .ok (.iinc 3 (-1), 3) := by decide +kernel
theorem dX1_solve_99 : decode cX1_solve 99 = .ok (.goto (-54), 3) := by decide +kernel
theorem dX1_solve_102 : decode cX1_solve 102 = .ok (.iconst 0, 1) := by decide +kernel
theorem dX1_solve_103 : decode cX1_solve 103 = .ok (.istore_n 3, 1) := by decide +kernel
theorem dX1_solve_104 : decode cX1_solve 104 = .ok (.iload_n 3, 1) := by decide +kernel
theorem dX1_solve_105 : decode cX1_solve 105 = .ok (.iconst 1, 1) := by decide +kernel
theorem dX1_solve_106 : decode cX1_solve 106 = .ok (.aload_n 0, 1) := by decide +kernel
theorem dX1_solve_107 : decode cX1_solve 107 = .ok (.getfield 28, 3) := by decide +kernel
theorem dX1_solve_110 : decode cX1_solve 110 = .ok (.ishl, 1) := by decide +kernel
theorem dX1_solve_111 : decode cX1_solve 111 = .ok (.if_icmp .ge 40, 3) := by decide +kernel
theorem dX1_solve_114 : decode cX1_solve 114 = .ok (.iload_n 3, 1) := by decide +kernel
theorem dX1_solve_115 : decode cX1_solve 115 = .ok (.invokestatic 38, 3) := by decide +kernel
theorem dX1_solve_118 : decode cX1_solve 118 = .ok (.istore 4, 2) := by decide +kernel
theorem dX1_solve_120 : decode cX1_solve 120 = .ok (.aload_n 0, 1) := by decide +kernel
theorem dX1_solve_121 : decode cX1_solve 121 = .ok (.getfield 15, 3) := by decide +kernel
theorem dX1_solve_124 : decode cX1_solve 124 = .ok (.iload_n 3, 1) := by decide +kernel
theorem dX1_solve_125 : decode cX1_solve 125 = .ok (.baload, 1) := by decide +kernel
theorem dX1_solve_126 : decode cX1_solve 126 = .ok (.ifCond .eq 19, 3) := by decide +kernel
theorem dX1_solve_129 : decode cX1_solve 129 = .ok (.iload 4, 2) := by decide +kernel
theorem dX1_solve_131 : decode cX1_solve 131 = .ok (.aload_n 1, 1) := by decide +kernel
theorem dX1_solve_132 : decode cX1_solve 132 = .ok (.getfield 29, 3) := by decide +kernel
theorem dX1_solve_135 : decode cX1_solve 135 = .ok (.if_icmp .ge 10, 3) := by decide +kernel
theorem dX1_solve_138 : decode cX1_solve 138 = .ok (.aload_n 0, 1) := by decide +kernel
theorem dX1_solve_139 : decode cX1_solve 139 = .ok (.iload 4, 2) := by decide +kernel
theorem dX1_solve_141 : decode cX1_solve 141 = .ok (.iload_n 3, 1) := by decide +kernel
theorem dX1_solve_142 : decode cX1_solve 142 = .ok (.invokevirtual 48, 3) := by decide +kernel
theorem dX1_solve_145 : decode cX1_solve 145 = .ok (.iinc 3 1, 3) := by decide +kernel
theorem dX1_solve_148 : decode cX1_solve 148 = .ok (.goto (-44), 3) := by decide +kernel
theorem dX1_solve_151 : decode cX1_solve 151 = .ok (.return_, 1) := by decide +kernel
set_option maxRecDepth 20000 in
theorem ggX1_firstRoom_X1_firstFrom : GoodIn wsX1_firstRoom wsX1_firstFrom := goodIn_r _ [5, 6, 7, 8, 9, 4, 10, 11, 12, 13, 14, 15, 16] (by decide +kernel) (by decide +kernel)
set_option maxRecDepth 20000 in
theorem gX1_firstRoom_X1_firstFrom : GoodIn wsX1_firstRoom (wsV RX1 52 RX1 yX1_firstFrom wsX1_firstFrom) := goodIn_app (goodIn_of _ (by decide +kernel)) ggX1_firstRoom_X1_firstFrom
theorem dX1_firstRoom_0 : decode cX1_firstRoom 0 = .ok (.iconst 0, 1) := by decide +kernel
theorem dX1_firstRoom_1 : decode cX1_firstRoom 1 = .ok (.istore_n 2, 1) := by decide +kernel
theorem dX1_firstRoom_2 : decode cX1_firstRoom 2 = .ok (.iconst 0, 1) := by decide +kernel
theorem dX1_firstRoom_3 : decode cX1_firstRoom 3 = .ok (.istore_n 3, 1) := by decide +kernel
theorem dX1_firstRoom_4 : decode cX1_firstRoom 4 = .ok (.iload_n 3, 1) := by decide +kernel
theorem dX1_firstRoom_5 : decode cX1_firstRoom 5 = .ok (.iload_n 1, 1) := by decide +kernel
theorem dX1_firstRoom_6 : decode cX1_firstRoom 6 = .ok (.if_icmp .ge 34, 3) := by decide +kernel
theorem dX1_firstRoom_9 : decode cX1_firstRoom 9 = .ok (.aload_n 0, 1) := by decide +kernel
theorem dX1_firstRoom_10 : decode cX1_firstRoom 10 = .ok (.iload_n 3, 1) := by decide +kernel
theorem dX1_firstRoom_11 : decode cX1_firstRoom 11 = .ok (.iload_n 2, 1) := by decide +kernel
theorem dX1_firstRoom_12 : decode cX1_firstRoom 12 = .ok (.invokevirtual 52, 3) := by decide +kernel
theorem dX1_firstRoom_15 : decode cX1_firstRoom 15 = .ok (.istore 4, 2) := by decide +kernel
theorem dX1_firstRoom_17 : decode cX1_firstRoom 17 = .ok (.iload 4, 2) := by decide +kernel
theorem dX1_firstRoom_19 : decode cX1_firstRoom 19 = .ok (.bipush (-9), 2) := by decide +kernel
theorem dX1_firstRoom_21 : decode cX1_firstRoom 21 = .ok (.if_icmp .ne 6, 3) := by decide +kernel
theorem dX1_firstRoom_24 : decode cX1_firstRoom 24 = .ok (.bipush (-9), 2) := by decide +kernel
theorem dX1_firstRoom_26 : decode cX1_firstRoom 26 = .ok (.ireturn, 1) := by decide +kernel
theorem dX1_firstRoom_27 : decode cX1_firstRoom 27 = .ok (.iload_n 2, 1) := by decide +kernel
theorem dX1_firstRoom_28 : decode cX1_firstRoom 28 = .ok (.iconst 1, 1) := by decide +kernel
theorem dX1_firstRoom_29 : decode cX1_firstRoom 29 = .ok (.iload 4, 2) := by decide +kernel
theorem dX1_firstRoom_31 : decode cX1_firstRoom 31 = .ok (.ishl, 1) := by decide +kernel
theorem dX1_firstRoom_32 : decode cX1_firstRoom 32 = .ok (.ior, 1) := by decide +kernel
theorem dX1_firstRoom_33 : decode cX1_firstRoom 33 = .ok (.istore_n 2, 1) := by decide +kernel
theorem dX1_firstRoom_34 : decode cX1_firstRoom 34 = .ok (.iinc 3 1, 3) := by decide +kernel
theorem dX1_firstRoom_37 : decode cX1_firstRoom 37 = .ok (.goto (-33), 3) := by decide +kernel
theorem dX1_firstRoom_40 : decode cX1_firstRoom 40 = .ok (.aload_n 0, 1) := by decide +kernel
theorem dX1_firstRoom_41 : decode cX1_firstRoom 41 = .ok (.iload_n 1, 1) := by decide +kernel
theorem dX1_firstRoom_42 : decode cX1_firstRoom 42 = .ok (.iload_n 2, 1) := by decide +kernel
theorem dX1_firstRoom_43 : decode cX1_firstRoom 43 = .ok (.invokevirtual 52, 3) := by decide +kernel
theorem dX1_firstRoom_46 : decode cX1_firstRoom 46 = .ok (.ireturn, 1) := by decide +kernel
set_option maxRecDepth 20000 in
theorem ggX1_someRooms_J6_bitCount_0f7a4 : GoodIn wsX1_someRooms wsJ6_bitCount_0f7a4 := goodIn_r _ [6, 7, 8, 9] (by decide +kernel) (by decide +kernel)
set_option maxRecDepth 20000 in
theorem gX1_someRooms_J6_bitCount_0f7a4 : GoodIn wsX1_someRooms (va_wsS RX1 38 yJ6_bitCount_0f7a4 wsJ6_bitCount_0f7a4) := goodIn_app (goodIn_of _ (by decide +kernel)) ggX1_someRooms_J6_bitCount_0f7a4
set_option maxRecDepth 20000 in
theorem ggX1_someRooms_X1_goodRooms : GoodIn wsX1_someRooms wsX1_goodRooms := goodIn_r _ [14, 1, 15, 16, 17, 18, 19, 20] (by decide +kernel) (by decide +kernel)
set_option maxRecDepth 20000 in
theorem gX1_someRooms_X1_goodRooms : GoodIn wsX1_someRooms (wsV RX1 55 RX1 yX1_goodRooms wsX1_goodRooms) := goodIn_app (goodIn_of _ (by decide +kernel)) ggX1_someRooms_X1_goodRooms
theorem dX1_someRooms_0 : decode cX1_someRooms 0 = .ok (.iconst 0, 1) := by decide +kernel
theorem dX1_someRooms_1 : decode cX1_someRooms 1 = .ok (.istore_n 2, 1) := by decide +kernel
theorem dX1_someRooms_2 : decode cX1_someRooms 2 = .ok (.iconst 0, 1) := by decide +kernel
theorem dX1_someRooms_3 : decode cX1_someRooms 3 = .ok (.istore_n 3, 1) := by decide +kernel
theorem dX1_someRooms_4 : decode cX1_someRooms 4 = .ok (.iload_n 3, 1) := by decide +kernel
theorem dX1_someRooms_5 : decode cX1_someRooms 5 = .ok (.iconst 1, 1) := by decide +kernel
theorem dX1_someRooms_6 : decode cX1_someRooms 6 = .ok (.aload_n 0, 1) := by decide +kernel
theorem dX1_someRooms_7 : decode cX1_someRooms 7 = .ok (.getfield 28, 3) := by decide +kernel
theorem dX1_someRooms_10 : decode cX1_someRooms 10 = .ok (.ishl, 1) := by decide +kernel
theorem dX1_someRooms_11 : decode cX1_someRooms 11 = .ok (.if_icmp .ge 35, 3) := by decide +kernel
theorem dX1_someRooms_14 : decode cX1_someRooms 14 = .ok (.aload_n 0, 1) := by decide +kernel
theorem dX1_someRooms_15 : decode cX1_someRooms 15 = .ok (.getfield 15, 3) := by decide +kernel
theorem dX1_someRooms_18 : decode cX1_someRooms 18 = .ok (.iload_n 3, 1) := by decide +kernel
theorem dX1_someRooms_19 : decode cX1_someRooms 19 = .ok (.baload, 1) := by decide +kernel
theorem dX1_someRooms_20 : decode cX1_someRooms 20 = .ok (.ifCond .eq 20, 3) := by decide +kernel
theorem dX1_someRooms_23 : decode cX1_someRooms 23 = .ok (.iload_n 3, 1) := by decide +kernel
theorem dX1_someRooms_24 : decode cX1_someRooms 24 = .ok (.invokestatic 38, 3) := by decide +kernel
theorem dX1_someRooms_27 : decode cX1_someRooms 27 = .ok (.iload_n 1, 1) := by decide +kernel
theorem dX1_someRooms_28 : decode cX1_someRooms 28 = .ok (.if_icmp .ne 12, 3) := by decide +kernel
theorem dX1_someRooms_31 : decode cX1_someRooms 31 = .ok (.iload_n 2, 1) := by decide +kernel
theorem dX1_someRooms_32 : decode cX1_someRooms 32 = .ok (.aload_n 0, 1) := by decide +kernel
theorem dX1_someRooms_33 : decode cX1_someRooms 33 = .ok (.iload_n 1, 1) := by decide +kernel
theorem dX1_someRooms_34 : decode cX1_someRooms 34 = .ok (.iload_n 3, 1) := by decide +kernel
theorem dX1_someRooms_35 : decode cX1_someRooms 35 = .ok (.invokevirtual 55, 3) := by decide +kernel
theorem dX1_someRooms_38 : decode cX1_someRooms 38 = .ok (.ior, 1) := by decide +kernel
theorem dX1_someRooms_39 : decode cX1_someRooms 39 = .ok (.istore_n 2, 1) := by decide +kernel
theorem dX1_someRooms_40 : decode cX1_someRooms 40 = .ok (.iinc 3 1, 3) := by decide +kernel
theorem dX1_someRooms_43 : decode cX1_someRooms 43 = .ok (.goto (-39), 3) := by decide +kernel
theorem dX1_someRooms_46 : decode cX1_someRooms 46 = .ok (.iload_n 2, 1) := by decide +kernel
theorem dX1_someRooms_47 : decode cX1_someRooms 47 = .ok (.ireturn, 1) := by decide +kernel
theorem dX1_waysOn_0 : decode cX1_waysOn 0 = .ok (.iconst 0, 1) := by decide +kernel
theorem dX1_waysOn_1 : decode cX1_waysOn 1 = .ok (.istore_n 3, 1) := by decide +kernel
theorem dX1_waysOn_2 : decode cX1_waysOn 2 = .ok (.iconst 0, 1) := by decide +kernel
theorem dX1_waysOn_3 : decode cX1_waysOn 3 = .ok (.istore 4, 2) := by decide +kernel
theorem dX1_waysOn_5 : decode cX1_waysOn 5 = .ok (.iload 4, 2) := by decide +kernel
theorem dX1_waysOn_7 : decode cX1_waysOn 7 = .ok (.aload_n 0, 1) := by decide +kernel
theorem dX1_waysOn_8 : decode cX1_waysOn 8 = .ok (.getfield 28, 3) := by decide +kernel
theorem dX1_waysOn_11 : decode cX1_waysOn 11 = .ok (.if_icmp .ge 41, 3) := by decide +kernel
theorem dX1_waysOn_14 : decode cX1_waysOn 14 = .ok (.aload_n 0, 1) := by decide +kernel
theorem dX1_waysOn_15 : decode cX1_waysOn 15 = .ok (.getfield 19, 3) := by decide +kernel
theorem dX1_waysOn_18 : decode cX1_waysOn 18 = .ok (.iload_n 1, 1) := by decide +kernel
theorem dX1_waysOn_19 : decode cX1_waysOn 19 = .ok (.iaload, 1) := by decide +kernel
theorem dX1_waysOn_20 : decode cX1_waysOn 20 = .ok (.iload_n 2, 1) := by decide +kernel
theorem dX1_waysOn_21 : decode cX1_waysOn 21 = .ok (.iconst (-1), 1) := by decide +kernel
theorem dX1_waysOn_22 : decode cX1_waysOn 22 = .ok (.ixor, 1) := by decide +kernel
theorem dX1_waysOn_23 : decode cX1_waysOn 23 = .ok (.iand, 1) := by decide +kernel
theorem dX1_waysOn_24 : decode cX1_waysOn 24 = .ok (.iload 4, 2) := by decide +kernel
theorem dX1_waysOn_26 : decode cX1_waysOn 26 = .ok (.ishr, 1) := by decide +kernel
theorem dX1_waysOn_27 : decode cX1_waysOn 27 = .ok (.iconst 1, 1) := by decide +kernel
theorem dX1_waysOn_28 : decode cX1_waysOn 28 = .ok (.iand, 1) := by decide +kernel
theorem dX1_waysOn_29 : decode cX1_waysOn 29 = .ok (.ifCond .eq 17, 3) := by decide +kernel
theorem dX1_waysOn_32 : decode cX1_waysOn 32 = .ok (.iload_n 3, 1) := by decide +kernel
theorem dX1_waysOn_33 : decode cX1_waysOn 33 = .ok (.aload_n 0, 1) := by decide +kernel
theorem dX1_waysOn_34 : decode cX1_waysOn 34 = .ok (.getfield 9, 3) := by decide +kernel
theorem dX1_waysOn_37 : decode cX1_waysOn 37 = .ok (.iload_n 2, 1) := by decide +kernel
theorem dX1_waysOn_38 : decode cX1_waysOn 38 = .ok (.iconst 1, 1) := by decide +kernel
theorem dX1_waysOn_39 : decode cX1_waysOn 39 = .ok (.iload 4, 2) := by decide +kernel
theorem dX1_waysOn_41 : decode cX1_waysOn 41 = .ok (.ishl, 1) := by decide +kernel
theorem dX1_waysOn_42 : decode cX1_waysOn 42 = .ok (.ior, 1) := by decide +kernel
theorem dX1_waysOn_43 : decode cX1_waysOn 43 = .ok (.iaload, 1) := by decide +kernel
theorem dX1_waysOn_44 : decode cX1_waysOn 44 = .ok (.iadd, 1) := by decide +kernel
theorem dX1_waysOn_45 : decode cX1_waysOn 45 = .ok (.istore_n 3, 1) := by decide +kernel
theorem dX1_waysOn_46 : decode cX1_waysOn 46 = .ok (.iinc 4 1, 3) := by decide +kernel
theorem dX1_waysOn_49 : decode cX1_waysOn 49 = .ok (.goto (-44), 3) := by decide +kernel
theorem dX1_waysOn_52 : decode cX1_waysOn 52 = .ok (.iload_n 3, 1) := by decide +kernel
theorem dX1_waysOn_53 : decode cX1_waysOn 53 = .ok (.ireturn, 1) := by decide +kernel
theorem dX1_reachFrom_0 : decode cX1_reachFrom 0 = .ok (.iconst 0, 1) := by decide +kernel
theorem dX1_reachFrom_1 : decode cX1_reachFrom 1 = .ok (.istore_n 3, 1) := by decide +kernel
theorem dX1_reachFrom_2 : decode cX1_reachFrom 2 = .ok (.iload_n 3, 1) := by decide +kernel
theorem dX1_reachFrom_3 : decode cX1_reachFrom 3 = .ok (.aload_n 0, 1) := by decide +kernel
theorem dX1_reachFrom_4 : decode cX1_reachFrom 4 = .ok (.getfield 28, 3) := by decide +kernel
theorem dX1_reachFrom_7 : decode cX1_reachFrom 7 = .ok (.if_icmp .ge 37, 3) := by decide +kernel
theorem dX1_reachFrom_10 : decode cX1_reachFrom 10 = .ok (.aload_n 0, 1) := by decide +kernel
theorem dX1_reachFrom_11 : decode cX1_reachFrom 11 = .ok (.getfield 19, 3) := by decide +kernel
theorem dX1_reachFrom_14 : decode cX1_reachFrom 14 = .ok (.iload_n 1, 1) := by decide +kernel
theorem dX1_reachFrom_15 : decode cX1_reachFrom 15 = .ok (.iaload, 1) := by decide +kernel
theorem dX1_reachFrom_16 : decode cX1_reachFrom 16 = .ok (.iload_n 2, 1) := by decide +kernel
theorem dX1_reachFrom_17 : decode cX1_reachFrom 17 = .ok (.iconst (-1), 1) := by decide +kernel
theorem dX1_reachFrom_18 : decode cX1_reachFrom 18 = .ok (.ixor, 1) := by decide +kernel
theorem dX1_reachFrom_19 : decode cX1_reachFrom 19 = .ok (.iand, 1) := by decide +kernel
theorem dX1_reachFrom_20 : decode cX1_reachFrom 20 = .ok (.iload_n 3, 1) := by decide +kernel
theorem dX1_reachFrom_21 : decode cX1_reachFrom 21 = .ok (.ishr, 1) := by decide +kernel
theorem dX1_reachFrom_22 : decode cX1_reachFrom 22 = .ok (.iconst 1, 1) := by decide +kernel
theorem dX1_reachFrom_23 : decode cX1_reachFrom 23 = .ok (.iand, 1) := by decide +kernel
theorem dX1_reachFrom_24 : decode cX1_reachFrom 24 = .ok (.ifCond .eq 14, 3) := by decide +kernel
theorem dX1_reachFrom_27 : decode cX1_reachFrom 27 = .ok (.aload_n 0, 1) := by decide +kernel
theorem dX1_reachFrom_28 : decode cX1_reachFrom 28 = .ok (.getfield 15, 3) := by decide +kernel
theorem dX1_reachFrom_31 : decode cX1_reachFrom 31 = .ok (.iload_n 2, 1) := by decide +kernel
theorem dX1_reachFrom_32 : decode cX1_reachFrom 32 = .ok (.iconst 1, 1) := by decide +kernel
theorem dX1_reachFrom_33 : decode cX1_reachFrom 33 = .ok (.iload_n 3, 1) := by decide +kernel
theorem dX1_reachFrom_34 : decode cX1_reachFrom 34 = .ok (.ishl, 1) := by decide +kernel
theorem dX1_reachFrom_35 : decode cX1_reachFrom 35 = .ok (.ior, 1) := by decide +kernel
theorem dX1_reachFrom_36 : decode cX1_reachFrom 36 = .ok (.iconst 1, 1) := by decide +kernel
theorem dX1_reachFrom_37 : decode cX1_reachFrom 37 = .ok (.bastore, 1) := by decide +kernel
theorem dX1_reachFrom_38 : decode cX1_reachFrom 38 = .ok (.iinc 3 1, 3) := by decide +kernel
theorem dX1_reachFrom_41 : decode cX1_reachFrom 41 = .ok (.goto (-39), 3) := by decide +kernel
theorem dX1_reachFrom_44 : decode cX1_reachFrom 44 = .ok (.return_, 1) := by decide +kernel
theorem dX1_goodRooms_0 : decode cX1_goodRooms 0 = .ok (.iconst 0, 1) := by decide +kernel
theorem dX1_goodRooms_1 : decode cX1_goodRooms 1 = .ok (.istore_n 3, 1) := by decide +kernel
theorem dX1_goodRooms_2 : decode cX1_goodRooms 2 = .ok (.iconst 0, 1) := by decide +kernel
theorem dX1_goodRooms_3 : decode cX1_goodRooms 3 = .ok (.istore 4, 2) := by decide +kernel
theorem dX1_goodRooms_5 : decode cX1_goodRooms 5 = .ok (.iload 4, 2) := by decide +kernel
theorem dX1_goodRooms_7 : decode cX1_goodRooms 7 = .ok (.aload_n 0, 1) := by decide +kernel
theorem dX1_goodRooms_8 : decode cX1_goodRooms 8 = .ok (.getfield 28, 3) := by decide +kernel
theorem dX1_goodRooms_11 : decode cX1_goodRooms 11 = .ok (.if_icmp .ge 48, 3) := by decide +kernel
theorem dX1_goodRooms_14 : decode cX1_goodRooms 14 = .ok (.aload_n 0, 1) := by decide +kernel
theorem dX1_goodRooms_15 : decode cX1_goodRooms 15 = .ok (.getfield 19, 3) := by decide +kernel
theorem dX1_goodRooms_18 : decode cX1_goodRooms 18 = .ok (.iload_n 1, 1) := by decide +kernel
theorem dX1_goodRooms_19 : decode cX1_goodRooms 19 = .ok (.iaload, 1) := by decide +kernel
theorem dX1_goodRooms_20 : decode cX1_goodRooms 20 = .ok (.iload_n 2, 1) := by decide +kernel
theorem dX1_goodRooms_21 : decode cX1_goodRooms 21 = .ok (.iconst (-1), 1) := by decide +kernel
theorem dX1_goodRooms_22 : decode cX1_goodRooms 22 = .ok (.ixor, 1) := by decide +kernel
theorem dX1_goodRooms_23 : decode cX1_goodRooms 23 = .ok (.iand, 1) := by decide +kernel
theorem dX1_goodRooms_24 : decode cX1_goodRooms 24 = .ok (.iload 4, 2) := by decide +kernel
theorem dX1_goodRooms_26 : decode cX1_goodRooms 26 = .ok (.ishr, 1) := by decide +kernel
theorem dX1_goodRooms_27 : decode cX1_goodRooms 27 = .ok (.iconst 1, 1) := by decide +kernel
theorem dX1_goodRooms_28 : decode cX1_goodRooms 28 = .ok (.iand, 1) := by decide +kernel
theorem dX1_goodRooms_29 : decode cX1_goodRooms 29 = .ok (.ifCond .eq 24, 3) := by decide +kernel
theorem dX1_goodRooms_32 : decode cX1_goodRooms 32 = .ok (.aload_n 0, 1) := by decide +kernel
theorem dX1_goodRooms_33 : decode cX1_goodRooms 33 = .ok (.getfield 9, 3) := by decide +kernel
theorem dX1_goodRooms_36 : decode cX1_goodRooms 36 = .ok (.iload_n 2, 1) := by decide +kernel
theorem dX1_goodRooms_37 : decode cX1_goodRooms 37 = .ok (.iconst 1, 1) := by decide +kernel
theorem dX1_goodRooms_38 : decode cX1_goodRooms 38 = .ok (.iload 4, 2) := by decide +kernel
theorem dX1_goodRooms_40 : decode cX1_goodRooms 40 = .ok (.ishl, 1) := by decide +kernel
theorem dX1_goodRooms_41 : decode cX1_goodRooms 41 = .ok (.ior, 1) := by decide +kernel
theorem dX1_goodRooms_42 : decode cX1_goodRooms 42 = .ok (.iaload, 1) := by decide +kernel
theorem dX1_goodRooms_43 : decode cX1_goodRooms 43 = .ok (.ifCond .le 10, 3) := by decide +kernel
theorem dX1_goodRooms_46 : decode cX1_goodRooms 46 = .ok (.iload_n 3, 1) := by decide +kernel
theorem dX1_goodRooms_47 : decode cX1_goodRooms 47 = .ok (.iconst 1, 1) := by decide +kernel
theorem dX1_goodRooms_48 : decode cX1_goodRooms 48 = .ok (.iload 4, 2) := by decide +kernel
theorem dX1_goodRooms_50 : decode cX1_goodRooms 50 = .ok (.ishl, 1) := by decide +kernel
theorem dX1_goodRooms_51 : decode cX1_goodRooms 51 = .ok (.ior, 1) := by decide +kernel
theorem dX1_goodRooms_52 : decode cX1_goodRooms 52 = .ok (.istore_n 3, 1) := by decide +kernel
theorem dX1_goodRooms_53 : decode cX1_goodRooms 53 = .ok (.iinc 4 1, 3) := by decide +kernel
theorem dX1_goodRooms_56 : decode cX1_goodRooms 56 = .ok (.goto (-51), 3) := by decide +kernel
theorem dX1_goodRooms_59 : decode cX1_goodRooms 59 = .ok (.iload_n 3, 1) := by decide +kernel
theorem dX1_goodRooms_60 : decode cX1_goodRooms 60 = .ok (.ireturn, 1) := by decide +kernel
set_option maxRecDepth 20000 in
theorem ggX1_firstFrom_X1_goodRooms : GoodIn wsX1_firstFrom wsX1_goodRooms := goodIn_r _ [6, 1, 7, 8, 9, 10, 11, 12] (by decide +kernel) (by decide +kernel)
set_option maxRecDepth 20000 in
theorem gX1_firstFrom_X1_goodRooms : GoodIn wsX1_firstFrom (wsV RX1 55 RX1 yX1_goodRooms wsX1_goodRooms) := goodIn_app (goodIn_of _ (by decide +kernel)) ggX1_firstFrom_X1_goodRooms
theorem dX1_firstFrom_0 : decode cX1_firstFrom 0 = .ok (.aload_n 0, 1) := by decide +kernel
theorem dX1_firstFrom_1 : decode cX1_firstFrom 1 = .ok (.iload_n 1, 1) := by decide +kernel
theorem dX1_firstFrom_2 : decode cX1_firstFrom 2 = .ok (.iload_n 2, 1) := by decide +kernel
theorem dX1_firstFrom_3 : decode cX1_firstFrom 3 = .ok (.invokevirtual 55, 3) := by decide +kernel
theorem dX1_firstFrom_6 : decode cX1_firstFrom 6 = .ok (.istore_n 3, 1) := by decide +kernel
theorem dX1_firstFrom_7 : decode cX1_firstFrom 7 = .ok (.iconst 0, 1) := by decide +kernel
theorem dX1_firstFrom_8 : decode cX1_firstFrom 8 = .ok (.istore 4, 2) := by decide +kernel
theorem dX1_firstFrom_10 : decode cX1_firstFrom 10 = .ok (.iload 4, 2) := by decide +kernel
theorem dX1_firstFrom_12 : decode cX1_firstFrom 12 = .ok (.aload_n 0, 1) := by decide +kernel
theorem dX1_firstFrom_13 : decode cX1_firstFrom 13 = .ok (.getfield 28, 3) := by decide +kernel
theorem dX1_firstFrom_16 : decode cX1_firstFrom 16 = .ok (.if_icmp .ge 21, 3) := by decide +kernel
theorem dX1_firstFrom_19 : decode cX1_firstFrom 19 = .ok (.iload_n 3, 1) := by decide +kernel
theorem dX1_firstFrom_20 : decode cX1_firstFrom 20 = .ok (.iload 4, 2) := by decide +kernel
theorem dX1_firstFrom_22 : decode cX1_firstFrom 22 = .ok (.ishr, 1) := by decide +kernel
theorem dX1_firstFrom_23 : decode cX1_firstFrom 23 = .ok (.iconst 1, 1) := by decide +kernel
theorem dX1_firstFrom_24 : decode cX1_firstFrom 24 = .ok (.iand, 1) := by decide +kernel
theorem dX1_firstFrom_25 : decode cX1_firstFrom 25 = .ok (.ifCond .eq 6, 3) := by decide +kernel
theorem dX1_firstFrom_28 : decode cX1_firstFrom 28 = .ok (.iload 4, 2) := by decide +kernel
theorem dX1_firstFrom_30 : decode cX1_firstFrom 30 = .ok (.ireturn, 1) := by decide +kernel
theorem dX1_firstFrom_31 : decode cX1_firstFrom 31 = .ok (.iinc 4 1, 3) := by decide +kernel
theorem dX1_firstFrom_34 : decode cX1_firstFrom 34 = .ok (.goto (-24), 3) := by decide +kernel
theorem dX1_firstFrom_37 : decode cX1_firstFrom 37 = .ok (.bipush (-9), 2) := by decide +kernel
theorem dX1_firstFrom_39 : decode cX1_firstFrom 39 = .ok (.ireturn, 1) := by decide +kernel
theorem dX2_init_0 : decode cX2_init 0 = .ok (.aload_n 0, 1) := by decide +kernel
theorem dX2_init_1 : decode cX2_init 1 = .ok (.invokespecial 3, 3) := by decide +kernel
theorem dX2_init_4 : decode cX2_init 4 = .ok (.aload_n 0, 1) := by decide +kernel
theorem dX2_init_5 : decode cX2_init 5 = .ok (.bipush 6, 2) := by decide +kernel
theorem dX2_init_7 : decode cX2_init 7 = .ok (.newarray .int, 2) := by decide +kernel
theorem dX2_init_9 : decode cX2_init 9 = .ok (.putfield 9, 3) := by decide +kernel
theorem dX2_init_12 : decode cX2_init 12 = .ok (.aload_n 0, 1) := by decide +kernel
theorem dX2_init_13 : decode cX2_init 13 = .ok (.bipush 6, 2) := by decide +kernel
theorem dX2_init_15 : decode cX2_init 15 = .ok (.newarray .int, 2) := by decide +kernel
theorem dX2_init_17 : decode cX2_init 17 = .ok (.putfield 15, 3) := by decide +kernel
theorem dX2_init_20 : decode cX2_init 20 = .ok (.aload_n 0, 1) := by decide +kernel
theorem dX2_init_21 : decode cX2_init 21 = .ok (.bipush 6, 2) := by decide +kernel
theorem dX2_init_23 : decode cX2_init 23 = .ok (.newarray .int, 2) := by decide +kernel
theorem dX2_init_25 : decode cX2_init 25 = .ok (.putfield 18, 3) := by decide +kernel
theorem dX2_init_28 : decode cX2_init 28 = .ok (.aload_n 0, 1) := by decide +kernel
theorem dX2_init_29 : decode cX2_init 29 = .ok (.bipush 6, 2) := by decide +kernel
theorem dX2_init_31 : decode cX2_init 31 = .ok (.newarray .int, 2) := by decide +kernel
theorem dX2_init_33 : decode cX2_init 33 = .ok (.putfield 21, 3) := by decide +kernel
theorem dX2_init_36 : decode cX2_init 36 = .ok (.aload_n 0, 1) := by decide +kernel
theorem dX2_init_37 : decode cX2_init 37 = .ok (.bipush 6, 2) := by decide +kernel
theorem dX2_init_39 : decode cX2_init 39 = .ok (.newarray .int, 2) := by decide +kernel
theorem dX2_init_41 : decode cX2_init 41 = .ok (.putfield 24, 3) := by decide +kernel
theorem dX2_init_44 : decode cX2_init 44 = .ok (.aload_n 0, 1) := by decide +kernel
theorem dX2_init_45 : decode cX2_init 45 = .ok (.bipush 6, 2) := by decide +kernel
theorem dX2_init_47 : decode cX2_init 47 = .ok (.newarray .int, 2) := by decide +kernel
theorem dX2_init_49 : decode cX2_init 49 = .ok (.putfield 27, 3) := by decide +kernel
theorem dX2_init_52 : decode cX2_init 52 = .ok (.aload_n 0, 1) := by decide +kernel
