abbrev K_Co : Type := (Nat → Int32) × (Nat → Int32) × (Nat → Int32) × (Nat → Int32)
abbrev K_St : Type := K_Co × K_Co × (Nat → Int32) × Int32 × Int32 × Int32 × Int32
abbrev K_Rv : Type := K_St × (Nat → Int64) × (Nat → Int32) × (Nat → Int32)
abbrev K_CC : Type := K_Co × K_Co
abbrev K_CR : Type := K_Co × (Nat → Int32)
abbrev K_Mo : Type := K_Co × K_Co × (Nat → Int32) × (Nat → Int32) × (Nat → Int32) × (Nat → Int64) × (Nat → Int32) × Int32 × Int32 × Int32 × Int32 × Int32 × Int32
abbrev K_LH : Type := K_Rv × (Nat → Int64)
abbrev K_La : Type := K_Rv × K_Mo × (Nat → Int64)
def R_Co : String := "RecordVersions$Content"
def F_Co : u_T := fun k => match k with
  | 0 => ("RecordVersions$Content", "owners", "[I", true)
  | 1 => ("RecordVersions$Content", "values", "[I", true)
  | 2 => ("RecordVersions$Content", "links", "[I", true)
  | _ => ("RecordVersions$Content", "states", "[I", true)
def t_Co : Nat → FieldType := fun k => match k with
  | 0 => .array .int
  | 1 => .array .int
  | 2 => .array .int
  | _ => .array .int
def R_St : String := "RecordVersions$Store"
def F_St : u_T := fun k => match k with
  | 0 => ("RecordVersions$Store", "memory", "LRecordVersions$Content;", true)
  | 1 => ("RecordVersions$Store", "disk", "LRecordVersions$Content;", true)
  | 2 => ("RecordVersions$Store", "earlier", "[I", true)
  | 3 => ("RecordVersions$Store", "dirty", "I", false)
  | 4 => ("RecordVersions$Store", "written", "I", false)
  | 5 => ("RecordVersions$Store", "crashes", "I", false)
  | _ => ("RecordVersions$Store", "failure", "I", false)
def t_St : Nat → FieldType := fun k => match k with
  | 0 => .object "RecordVersions$Content"
  | 1 => .object "RecordVersions$Content"
  | 2 => .array .int
  | 3 => .int
  | 4 => .int
  | 5 => .int
  | _ => .int
def R_Rv : String := "RecordVersions"
def F_Rv : u_T := fun k => match k with
  | 0 => ("RecordVersions", "store", "LRecordVersions$Store;", true)
  | 1 => ("RecordVersions", "memory", "LRecordVersions$Content;", true)
  | 2 => ("RecordVersions", "committedBefore", "[J", true)
  | 3 => ("RecordVersions", "changedPages", "[I", true)
  | _ => ("RecordVersions", "behind", "[I", true)
def t_Rv : Nat → FieldType := fun k => match k with
  | 0 => .object "RecordVersions$Store"
  | 1 => .object "RecordVersions$Content"
  | 2 => .array .long
  | 3 => .array .int
  | _ => .array .int
def R_Mo : String := "RecordVersionsModel"
def F_Mo : u_T := fun k => match k with
  | 0 => ("RecordVersionsModel", "thrown", "I", false)
  | 1 => ("RecordVersionsModel", "by", "[I", true)
  | 2 => ("RecordVersionsModel", "value", "[I", true)
  | 3 => ("RecordVersionsModel", "link", "[I", true)
  | 4 => ("RecordVersionsModel", "diskBy", "[I", true)
  | 5 => ("RecordVersionsModel", "diskValue", "[I", true)
  | 6 => ("RecordVersionsModel", "diskLink", "[I", true)
  | 7 => ("RecordVersionsModel", "states", "[I", true)
  | 8 => ("RecordVersionsModel", "diskStates", "[I", true)
  | 9 => ("RecordVersionsModel", "dirty", "[Z", true)
  | 10 => ("RecordVersionsModel", "first", "[I", true)
  | 11 => ("RecordVersionsModel", "touched", "[I", true)
  | 12 => ("RecordVersionsModel", "sees", "[J", true)
  | 13 => ("RecordVersionsModel", "pile", "[I", true)
  | 14 => ("RecordVersionsModel", "written", "I", false)
  | 15 => ("RecordVersionsModel", "crashes", "I", false)
  | 16 => ("RecordVersionsModel", "left", "I", false)
  | 17 => ("RecordVersionsModel", "crashed", "Z", false)
  | _ => ("RecordVersionsModel", "refusal", "I", false)
def t_Mo : Nat → FieldType := fun k => match k with
  | 0 => .int
  | 1 => .array .int
  | 2 => .array .int
  | 3 => .array .int
  | 4 => .array .int
  | 5 => .array .int
  | 6 => .array .int
  | 7 => .array .int
  | 8 => .array .int
  | 9 => .array .boolean
  | 10 => .array .int
  | 11 => .array .int
  | 12 => .array .long
  | 13 => .array .int
  | 14 => .int
  | 15 => .int
  | 16 => .int
  | 17 => .boolean
  | _ => .int
def R_La : String := "RecordVersionsLaw"
def R_JL : String := "java/lang/Long"
def R_JI : String := "java/lang/Integer"
abbrev vwCl : List vw_C := [(R_Co, F_Co, 4), (R_St, F_St, 7), (R_Rv, F_Rv, 5), (R_Mo, F_Mo, 19)]
abbrev w_Co (cI cJ cZ : ClassId) (mh m0 m1 m2 m3 : Nat) (U : K_Co) : va_W := [(mh, .inr (0, [.ref m0, .ref m1, .ref m2, .ref m3])), (m0, .inl (cI, 15, .inl U.1)), (m1, .inl (cI, 15, .inl U.2.1)), (m2, .inl (cI, 15, .inl U.2.2.1)), (m3, .inl (cI, 41, .inl U.2.2.2))]
abbrev w_CC (cI cJ cZ : ClassId) (mh m0 m1 m2 m3 dh d0 d1 d2 d3 : Nat) (U : K_CC) : va_W := [(mh, .inr (0, [.ref m0, .ref m1, .ref m2, .ref m3])), (m0, .inl (cI, 15, .inl U.1.1)), (m1, .inl (cI, 15, .inl U.1.2.1)), (m2, .inl (cI, 15, .inl U.1.2.2.1)), (m3, .inl (cI, 41, .inl U.1.2.2.2)), (dh, .inr (0, [.ref d0, .ref d1, .ref d2, .ref d3])), (d0, .inl (cI, 15, .inl U.2.1)), (d1, .inl (cI, 15, .inl U.2.2.1)), (d2, .inl (cI, 15, .inl U.2.2.2.1)), (d3, .inl (cI, 41, .inl U.2.2.2.2))]
abbrev w_CR (cI cJ cZ : ClassId) (mh m0 m1 m2 m3 be : Nat) (U : K_CR) : va_W := [(mh, .inr (0, [.ref m0, .ref m1, .ref m2, .ref m3])), (m0, .inl (cI, 15, .inl U.1.1)), (m1, .inl (cI, 15, .inl U.1.2.1)), (m2, .inl (cI, 15, .inl U.1.2.2.1)), (m3, .inl (cI, 41, .inl U.1.2.2.2)), (be, .inl (cI, 9, .inl U.2))]
abbrev w_St (cI cJ cZ : ClassId) (sh mh m0 m1 m2 m3 dh d0 d1 d2 d3 ea : Nat) (U : K_St) : va_W := [(sh, .inr (1, [.ref mh, .ref dh, .ref ea, .int U.2.2.2.1, .int U.2.2.2.2.1, .int U.2.2.2.2.2.1, .int U.2.2.2.2.2.2])), (mh, .inr (0, [.ref m0, .ref m1, .ref m2, .ref m3])), (m0, .inl (cI, 15, .inl U.1.1)), (m1, .inl (cI, 15, .inl U.1.2.1)), (m2, .inl (cI, 15, .inl U.1.2.2.1)), (m3, .inl (cI, 41, .inl U.1.2.2.2)), (dh, .inr (0, [.ref d0, .ref d1, .ref d2, .ref d3])), (d0, .inl (cI, 15, .inl U.2.1.1)), (d1, .inl (cI, 15, .inl U.2.1.2.1)), (d2, .inl (cI, 15, .inl U.2.1.2.2.1)), (d3, .inl (cI, 41, .inl U.2.1.2.2.2)), (ea, .inl (cI, 7, .inl U.2.2.1))]
abbrev w_Rv (cI cJ cZ : ClassId) (rh sh mh m0 m1 m2 m3 dh d0 d1 d2 d3 ea cb ch be : Nat) (U : K_Rv) : va_W := [(rh, .inr (2, [.ref sh, .ref mh, .ref cb, .ref ch, .ref be])), (sh, .inr (1, [.ref mh, .ref dh, .ref ea, .int U.1.2.2.2.1, .int U.1.2.2.2.2.1, .int U.1.2.2.2.2.2.1, .int U.1.2.2.2.2.2.2])), (mh, .inr (0, [.ref m0, .ref m1, .ref m2, .ref m3])), (m0, .inl (cI, 15, .inl U.1.1.1)), (m1, .inl (cI, 15, .inl U.1.1.2.1)), (m2, .inl (cI, 15, .inl U.1.1.2.2.1)), (m3, .inl (cI, 41, .inl U.1.1.2.2.2)), (dh, .inr (0, [.ref d0, .ref d1, .ref d2, .ref d3])), (d0, .inl (cI, 15, .inl U.1.2.1.1)), (d1, .inl (cI, 15, .inl U.1.2.1.2.1)), (d2, .inl (cI, 15, .inl U.1.2.1.2.2.1)), (d3, .inl (cI, 41, .inl U.1.2.1.2.2.2)), (ea, .inl (cI, 7, .inl U.1.2.2.1)), (cb, .inl (cJ, 41, .inr (.inl U.2.1))), (ch, .inl (cI, 41, .inl U.2.2.1)), (be, .inl (cI, 9, .inl U.2.2.2))]
abbrev w_Mo (cI cJ cZ : ClassId) (oh o0 o1 o2 o3 o4 o5 o6 o7 o8 o9 o10 o11 o12 : Nat) (U : K_Mo) : va_W := [(oh, .inr (3, [.int U.2.2.2.2.2.2.2.1, .ref o0, .ref o1, .ref o2, .ref o3, .ref o4, .ref o5, .ref o6, .ref o7, .ref o8, .ref o9, .ref o10, .ref o11, .ref o12, .int U.2.2.2.2.2.2.2.2.1, .int U.2.2.2.2.2.2.2.2.2.1, .int U.2.2.2.2.2.2.2.2.2.2.1, .int U.2.2.2.2.2.2.2.2.2.2.2.1, .int U.2.2.2.2.2.2.2.2.2.2.2.2])), (o0, .inl (cI, 15, .inl U.1.1)), (o1, .inl (cI, 15, .inl U.1.2.1)), (o2, .inl (cI, 15, .inl U.1.2.2.1)), (o3, .inl (cI, 15, .inl U.2.1.1)), (o4, .inl (cI, 15, .inl U.2.1.2.1)), (o5, .inl (cI, 15, .inl U.2.1.2.2.1)), (o6, .inl (cI, 41, .inl U.1.2.2.2)), (o7, .inl (cI, 41, .inl U.2.1.2.2.2)), (o8, .inl (cZ, 7, .inl U.2.2.1)), (o9, .inl (cI, 7, .inl U.2.2.2.1)), (o10, .inl (cI, 41, .inl U.2.2.2.2.1)), (o11, .inl (cJ, 41, .inr (.inl U.2.2.2.2.2.1))), (o12, .inl (cI, 8, .inl U.2.2.2.2.2.2.1))]
abbrev w_LH (cI cJ cZ : ClassId) (rh sh mh m0 m1 m2 m3 dh d0 d1 d2 d3 ea cb ch be ou : Nat) (U : K_LH) : va_W := [(rh, .inr (2, [.ref sh, .ref mh, .ref cb, .ref ch, .ref be])), (sh, .inr (1, [.ref mh, .ref dh, .ref ea, .int U.1.1.2.2.2.1, .int U.1.1.2.2.2.2.1, .int U.1.1.2.2.2.2.2.1, .int U.1.1.2.2.2.2.2.2])), (mh, .inr (0, [.ref m0, .ref m1, .ref m2, .ref m3])), (m0, .inl (cI, 15, .inl U.1.1.1.1)), (m1, .inl (cI, 15, .inl U.1.1.1.2.1)), (m2, .inl (cI, 15, .inl U.1.1.1.2.2.1)), (m3, .inl (cI, 41, .inl U.1.1.1.2.2.2)), (dh, .inr (0, [.ref d0, .ref d1, .ref d2, .ref d3])), (d0, .inl (cI, 15, .inl U.1.1.2.1.1)), (d1, .inl (cI, 15, .inl U.1.1.2.1.2.1)), (d2, .inl (cI, 15, .inl U.1.1.2.1.2.2.1)), (d3, .inl (cI, 41, .inl U.1.1.2.1.2.2.2)), (ea, .inl (cI, 7, .inl U.1.1.2.2.1)), (cb, .inl (cJ, 41, .inr (.inl U.1.2.1))), (ch, .inl (cI, 41, .inl U.1.2.2.1)), (be, .inl (cI, 9, .inl U.1.2.2.2)), (ou, .inl (cJ, 1, .inr (.inl U.2)))]
abbrev w_La (cI cJ cZ : ClassId) (rh sh mh m0 m1 m2 m3 dh d0 d1 d2 d3 ea cb ch be oh o0 o1 o2 o3 o4 o5 o6 o7 o8 o9 o10 o11 o12 ou : Nat) (U : K_La) : va_W := [(rh, .inr (2, [.ref sh, .ref mh, .ref cb, .ref ch, .ref be])), (sh, .inr (1, [.ref mh, .ref dh, .ref ea, .int U.1.1.2.2.2.1, .int U.1.1.2.2.2.2.1, .int U.1.1.2.2.2.2.2.1, .int U.1.1.2.2.2.2.2.2])), (mh, .inr (0, [.ref m0, .ref m1, .ref m2, .ref m3])), (m0, .inl (cI, 15, .inl U.1.1.1.1)), (m1, .inl (cI, 15, .inl U.1.1.1.2.1)), (m2, .inl (cI, 15, .inl U.1.1.1.2.2.1)), (m3, .inl (cI, 41, .inl U.1.1.1.2.2.2)), (dh, .inr (0, [.ref d0, .ref d1, .ref d2, .ref d3])), (d0, .inl (cI, 15, .inl U.1.1.2.1.1)), (d1, .inl (cI, 15, .inl U.1.1.2.1.2.1)), (d2, .inl (cI, 15, .inl U.1.1.2.1.2.2.1)), (d3, .inl (cI, 41, .inl U.1.1.2.1.2.2.2)), (ea, .inl (cI, 7, .inl U.1.1.2.2.1)), (cb, .inl (cJ, 41, .inr (.inl U.1.2.1))), (ch, .inl (cI, 41, .inl U.1.2.2.1)), (be, .inl (cI, 9, .inl U.1.2.2.2)), (oh, .inr (3, [.int U.2.1.2.2.2.2.2.2.2.1, .ref o0, .ref o1, .ref o2, .ref o3, .ref o4, .ref o5, .ref o6, .ref o7, .ref o8, .ref o9, .ref o10, .ref o11, .ref o12, .int U.2.1.2.2.2.2.2.2.2.2.1, .int U.2.1.2.2.2.2.2.2.2.2.2.1, .int U.2.1.2.2.2.2.2.2.2.2.2.2.1, .int U.2.1.2.2.2.2.2.2.2.2.2.2.2.1, .int U.2.1.2.2.2.2.2.2.2.2.2.2.2.2])), (o0, .inl (cI, 15, .inl U.2.1.1.1)), (o1, .inl (cI, 15, .inl U.2.1.1.2.1)), (o2, .inl (cI, 15, .inl U.2.1.1.2.2.1)), (o3, .inl (cI, 15, .inl U.2.1.2.1.1)), (o4, .inl (cI, 15, .inl U.2.1.2.1.2.1)), (o5, .inl (cI, 15, .inl U.2.1.2.1.2.2.1)), (o6, .inl (cI, 41, .inl U.2.1.1.2.2.2)), (o7, .inl (cI, 41, .inl U.2.1.2.1.2.2.2)), (o8, .inl (cZ, 7, .inl U.2.1.2.2.1)), (o9, .inl (cI, 7, .inl U.2.1.2.2.2.1)), (o10, .inl (cI, 41, .inl U.2.1.2.2.2.2.1)), (o11, .inl (cJ, 41, .inr (.inl U.2.1.2.2.2.2.2.1))), (o12, .inl (cI, 8, .inl U.2.1.2.2.2.2.2.2.1)), (ou, .inl (cJ, 1, .inr (.inl U.2.2)))]
theorem n_Co : ∀ a, a < 4 → ∀ b, b < 4 → a ≠ b → (F_Co a).2.1 ≠ (F_Co b).2.1 := by decide +kernel
theorem t_Co_ok : ∀ k, k < 4 → parseFieldDescriptor (F_Co k).2.2.1 = some (t_Co k) := by decide +kernel
theorem i_Co : ∀ w ∈ u_ws R_Co F_Co 4, w ∈ tb := x_pl [80, 82, 84, 86] (by decide +kernel)
theorem x_fs_Co : ∀ j, j < 4 → defaultValue (t_Co j) = vp_V [.null, .null, .null, .null] j := by decide +kernel
theorem n_St : ∀ a, a < 7 → ∀ b, b < 7 → a ≠ b → (F_St a).2.1 ≠ (F_St b).2.1 := by decide +kernel
theorem t_St_ok : ∀ k, k < 7 → parseFieldDescriptor (F_St k).2.2.1 = some (t_St k) := by decide +kernel
theorem i_St : ∀ w ∈ u_ws R_St F_St 7, w ∈ tb := x_pl [104, 106, 108, 110, 112, 114, 116] (by decide +kernel)
theorem x_fs_St : ∀ j, j < 7 → defaultValue (t_St j) = vp_V [.null, .null, .null, .int 0, .int 0, .int 0, .int 0] j := by decide +kernel
theorem n_Rv : ∀ a, a < 5 → ∀ b, b < 5 → a ≠ b → (F_Rv a).2.1 ≠ (F_Rv b).2.1 := by decide +kernel
theorem t_Rv_ok : ∀ k, k < 5 → parseFieldDescriptor (F_Rv k).2.2.1 = some (t_Rv k) := by decide +kernel
theorem i_Rv : ∀ w ∈ u_ws R_Rv F_Rv 5, w ∈ tb := x_pl [124, 126, 128, 130, 132] (by decide +kernel)
theorem x_fs_Rv : ∀ j, j < 5 → defaultValue (t_Rv j) = vp_V [.null, .null, .null, .null, .null] j := by decide +kernel
theorem n_Mo : ∀ a, a < 19 → ∀ b, b < 19 → a ≠ b → (F_Mo a).2.1 ≠ (F_Mo b).2.1 := by decide +kernel
theorem t_Mo_ok : ∀ k, k < 19 → parseFieldDescriptor (F_Mo k).2.2.1 = some (t_Mo k) := by decide +kernel
theorem i_Mo : ∀ w ∈ u_ws R_Mo F_Mo 19, w ∈ tb := x_pl [550, 552, 554, 556, 558, 560, 562, 564, 566, 568, 570, 572, 574, 576, 578, 580, 582, 584, 586] (by decide +kernel)
theorem x_fs_Mo : ∀ j, j < 19 → defaultValue (t_Mo j) = vp_V [.int 0, .null, .null, .null, .null, .null, .null, .null, .null, .null, .null, .null, .null, .null, .int 0, .int 0, .int 0, .int 0, .int 0] j := by decide +kernel
abbrev b_Co_init : ByteArray := prog_2_method_1_code
def y_Co_init : MethodName := ⟨"RecordVersions$Content", "<init>", "()V"⟩
def ws_Co_init : List Cond := .code y_Co_init b_Co_init 2 none :: tb
abbrev b_Co_fill : ByteArray := prog_2_method_3_code
def y_Co_fill : MethodName := ⟨"RecordVersions$Content", "fill", "(IIII)V"⟩
def ws_Co_fill : List Cond := .code y_Co_fill b_Co_fill 5 none :: tb
abbrev b_Co_empty : ByteArray := prog_2_method_2_code
def y_Co_empty : MethodName := ⟨"RecordVersions$Content", "empty", "(I)V"⟩
def ws_Co_empty : List Cond := .code y_Co_empty b_Co_empty 2 none :: tb
abbrev b_Co_move : ByteArray := prog_2_method_4_code
def y_Co_move : MethodName := ⟨"RecordVersions$Content", "move", "(II)V"⟩
def ws_Co_move : List Cond := .code y_Co_move b_Co_move 3 none :: tb
abbrev b_Co_takePage : ByteArray := prog_2_method_5_code
def y_Co_takePage : MethodName := ⟨"RecordVersions$Content", "takePage", "(LRecordVersions$Content;I)V"⟩
def ws_Co_takePage : List Cond := .code y_Co_takePage b_Co_takePage 5 none :: tb
abbrev b_Co_isRolled : ByteArray := prog_2_method_6_code
def y_Co_isRolled : MethodName := ⟨"RecordVersions$Content", "isRolled", "(I)Z"⟩
def ws_Co_isRolled : List Cond := .code y_Co_isRolled b_Co_isRolled 2 (some .boolean) :: tb
abbrev b_Co_next : ByteArray := prog_2_method_7_code
def y_Co_next : MethodName := ⟨"RecordVersions$Content", "next", "(I)I"⟩
def ws_Co_next : List Cond := .code y_Co_next b_Co_next 3 (some .int) :: tb
abbrev b_Co_placeAt : ByteArray := prog_2_method_8_code
def y_Co_placeAt : MethodName := ⟨"RecordVersions$Content", "placeAt", "(II)I"⟩
def ws_Co_placeAt : List Cond := .code y_Co_placeAt b_Co_placeAt 5 (some .int) :: tb
abbrev b_Rv_has : ByteArray := prog_1_method_29_code
def y_Rv_has : MethodName := ⟨"RecordVersions", "has", "(JI)Z"⟩
def ws_Rv_has : List Cond := .code y_Rv_has b_Rv_has 3 (some .boolean) :: tb
abbrev b_Co_firstOf : ByteArray := prog_2_method_9_code
def y_Co_firstOf : MethodName := ⟨"RecordVersions$Content", "firstOf", "(JI)I"⟩
def ws_Co_firstOf : List Cond := .code y_Co_firstOf b_Co_firstOf 6 (some .int) :: tb
abbrev b_Co_chainBehind : ByteArray := prog_2_method_10_code
def y_Co_chainBehind : MethodName := ⟨"RecordVersions$Content", "chainBehind", "(I[I)I"⟩
def ws_Co_chainBehind : List Cond := .code y_Co_chainBehind b_Co_chainBehind 5 (some .int) :: tb
abbrev b_Co_leastFree : ByteArray := prog_2_method_11_code
def y_Co_leastFree : MethodName := ⟨"RecordVersions$Content", "leastFree", "()I"⟩
def ws_Co_leastFree : List Cond := .code y_Co_leastFree b_Co_leastFree 2 (some .int) :: tb
abbrev b_Co_freeSlots : ByteArray := prog_2_method_12_code
def y_Co_freeSlots : MethodName := ⟨"RecordVersions$Content", "freeSlots", "()I"⟩
def ws_Co_freeSlots : List Cond := .code y_Co_freeSlots b_Co_freeSlots 3 (some .int) :: tb
abbrev b_Co_leastUnused : ByteArray := prog_2_method_13_code
def y_Co_leastUnused : MethodName := ⟨"RecordVersions$Content", "leastUnused", "()I"⟩
def ws_Co_leastUnused : List Cond := .code y_Co_leastUnused b_Co_leastUnused 2 (some .int) :: tb
abbrev b_Co_setIn : ByteArray := prog_2_method_16_code
def y_Co_setIn : MethodName := ⟨"RecordVersions$Content", "setIn", "(I)J"⟩
def ws_Co_setIn : List Cond := .code y_Co_setIn b_Co_setIn 5 (some .long) :: tb
abbrev b_JL_bitCount : ByteArray := prog_11_method_50_code
def y_JL_bitCount : MethodName := ⟨"java/lang/Long", "bitCount", "(J)I"⟩
def ws_JL_bitCount : List Cond := .code y_JL_bitCount b_JL_bitCount 2 (some .int) :: tb
abbrev b_Co_active : ByteArray := prog_2_method_14_code
def y_Co_active : MethodName := ⟨"RecordVersions$Content", "active", "()I"⟩
def ws_Co_active : List Cond := .code y_Co_active b_Co_active 1 (some .int) :: tb
abbrev b_Co_committed : ByteArray := prog_2_method_15_code
def y_Co_committed : MethodName := ⟨"RecordVersions$Content", "committed", "()J"⟩
def ws_Co_committed : List Cond := .code y_Co_committed b_Co_committed 1 (some .long) :: tb
abbrev b_St_init : ByteArray := prog_3_method_1_code
def y_St_init : MethodName := ⟨"RecordVersions$Store", "<init>", "()V"⟩
def ws_St_init : List Cond := .code y_St_init b_St_init 1 none :: tb
abbrev b_St_changed : ByteArray := prog_3_method_2_code
def y_St_changed : MethodName := ⟨"RecordVersions$Store", "changed", "(I)V"⟩
def ws_St_changed : List Cond := .code y_St_changed b_St_changed 2 none :: tb
abbrev b_St_failsNow : ByteArray := prog_3_method_5_code
def y_St_failsNow : MethodName := ⟨"RecordVersions$Store", "failsNow", "()Z"⟩
def ws_St_failsNow : List Cond := .code y_St_failsNow b_St_failsNow 1 (some .boolean) :: tb
abbrev b_St_settle : ByteArray := prog_3_method_6_code
def y_St_settle : MethodName := ⟨"RecordVersions$Store", "settle", "(I)V"⟩
def ws_St_settle : List Cond := .code y_St_settle b_St_settle 3 none :: tb
abbrev b_St_fall : ByteArray := prog_3_method_9_code
def y_St_fall : MethodName := ⟨"RecordVersions$Store", "fall", "()V"⟩
def ws_St_fall : List Cond := .code y_St_fall b_St_fall 2 none :: tb
abbrev b_St_put : ByteArray := prog_3_method_4_code
def y_St_put : MethodName := ⟨"RecordVersions$Store", "put", "(II)Z"⟩
def ws_St_put : List Cond := .code y_St_put b_St_put 4 (some .boolean) :: tb
abbrev b_St_putDirty : ByteArray := prog_3_method_3_code
def y_St_putDirty : MethodName := ⟨"RecordVersions$Store", "putDirty", "(I)Z"⟩
def ws_St_putDirty : List Cond := .code y_St_putDirty b_St_putDirty 3 (some .boolean) :: tb
abbrev b_St_mustPrecede : ByteArray := prog_3_method_8_code
def y_St_mustPrecede : MethodName := ⟨"RecordVersions$Store", "mustPrecede", "(II)Z"⟩
def ws_St_mustPrecede : List Cond := .code y_St_mustPrecede b_St_mustPrecede 6 (some .boolean) :: tb
abbrev b_St_note : ByteArray := prog_3_method_7_code
def y_St_note : MethodName := ⟨"RecordVersions$Store", "note", "(II)Z"⟩
def ws_St_note : List Cond := .code y_St_note b_St_note 3 (some .boolean) :: tb
abbrev b_Rv_init : ByteArray := prog_1_method_1_code
def y_Rv_init : MethodName := ⟨"RecordVersions", "<init>", "()V"⟩
def ws_Rv_init : List Cond := .code y_Rv_init b_Rv_init 1 none :: tb
abbrev b_Rv_begin : ByteArray := prog_1_method_2_code
def y_Rv_begin : MethodName := ⟨"RecordVersions", "begin", "()I"⟩
def ws_Rv_begin : List Cond := .code y_Rv_begin b_Rv_begin 2 (some .int) :: tb
abbrev b_Rv_demandRecord : ByteArray := prog_1_method_17_code
def y_Rv_demandRecord : MethodName := ⟨"RecordVersions", "demandRecord", "(I)V"⟩
def ws_Rv_demandRecord : List Cond := .code y_Rv_demandRecord b_Rv_demandRecord 1 none :: tb
abbrev b_Rv_demandActive : ByteArray := prog_1_method_18_code
def y_Rv_demandActive : MethodName := ⟨"RecordVersions", "demandActive", "(I)V"⟩
def ws_Rv_demandActive : List Cond := .code y_Rv_demandActive b_Rv_demandActive 2 none :: tb
abbrev b_Rv_seenBy : ByteArray := prog_1_method_21_code
def y_Rv_seenBy : MethodName := ⟨"RecordVersions", "seenBy", "(I)J"⟩
def ws_Rv_seenBy : List Cond := .code y_Rv_seenBy b_Rv_seenBy 2 (some .long) :: tb
abbrev b_Rv_placeSeen : ByteArray := prog_1_method_20_code
def y_Rv_placeSeen : MethodName := ⟨"RecordVersions", "placeSeen", "(II)I"⟩
def ws_Rv_placeSeen : List Cond := .code y_Rv_placeSeen b_Rv_placeSeen 3 (some .int) :: tb
abbrev b_Rv_demandValue : ByteArray := prog_1_method_19_code
def y_Rv_demandValue : MethodName := ⟨"RecordVersions", "demandValue", "(LRecordVersions$Content;I)I"⟩
def ws_Rv_demandValue : List Cond := .code y_Rv_demandValue b_Rv_demandValue 2 (some .int) :: tb
abbrev b_Rv_read : ByteArray := prog_1_method_3_code
def y_Rv_read : MethodName := ⟨"RecordVersions", "read", "(II)I"⟩
def ws_Rv_read : List Cond := .code y_Rv_read b_Rv_read 3 (some .int) :: tb
abbrev b_Rv_pageOf : ByteArray := prog_1_method_28_code
def y_Rv_pageOf : MethodName := ⟨"RecordVersions", "pageOf", "(I)I"⟩
def ws_Rv_pageOf : List Cond := .code y_Rv_pageOf b_Rv_pageOf 1 (some .int) :: tb
abbrev b_Rv_clean : ByteArray := prog_1_method_24_code
def y_Rv_clean : MethodName := ⟨"RecordVersions", "clean", "(I)Z"⟩
def ws_Rv_clean : List Cond := .code y_Rv_clean b_Rv_clean 4 (some .boolean) :: tb
abbrev b_Rv_changedBy : ByteArray := prog_1_method_23_code
def y_Rv_changedBy : MethodName := ⟨"RecordVersions", "changedBy", "(II)V"⟩
def ws_Rv_changedBy : List Cond := .code y_Rv_changedBy b_Rv_changedBy 3 none :: tb
abbrev b_Rv_change : ByteArray := prog_1_method_22_code
def y_Rv_change : MethodName := ⟨"RecordVersions", "change", "(III)I"⟩
def ws_Rv_change : List Cond := .code y_Rv_change b_Rv_change 6 (some .int) :: tb
abbrev b_Rv_write : ByteArray := prog_1_method_4_code
def y_Rv_write : MethodName := ⟨"RecordVersions", "write", "(III)I"⟩
def ws_Rv_write : List Cond := .code y_Rv_write b_Rv_write 4 (some .int) :: tb
abbrev b_Rv_erase : ByteArray := prog_1_method_5_code
def y_Rv_erase : MethodName := ⟨"RecordVersions", "erase", "(II)I"⟩
def ws_Rv_erase : List Cond := .code y_Rv_erase b_Rv_erase 3 (some .int) :: tb
abbrev b_Rv_commit : ByteArray := prog_1_method_6_code
def y_Rv_commit : MethodName := ⟨"RecordVersions", "commit", "(I)I"⟩
def ws_Rv_commit : List Cond := .code y_Rv_commit b_Rv_commit 3 (some .int) :: tb
abbrev b_Rv_rollback : ByteArray := prog_1_method_7_code
def y_Rv_rollback : MethodName := ⟨"RecordVersions", "rollback", "(I)I"⟩
def ws_Rv_rollback : List Cond := .code y_Rv_rollback b_Rv_rollback 2 (some .int) :: tb
abbrev b_Rv_committedForAll : ByteArray := prog_1_method_26_code
def y_Rv_committedForAll : MethodName := ⟨"RecordVersions", "committedForAll", "()J"⟩
def ws_Rv_committedForAll : List Cond := .code y_Rv_committedForAll b_Rv_committedForAll 4 (some .long) :: tb
abbrev b_Rv_cutBehind : ByteArray := prog_1_method_27_code
def y_Rv_cutBehind : MethodName := ⟨"RecordVersions", "cutBehind", "(II)I"⟩
def ws_Rv_cutBehind : List Cond := .code y_Rv_cutBehind b_Rv_cutBehind 6 (some .int) :: tb
abbrev b_Rv_sweepRecord : ByteArray := prog_1_method_25_code
def y_Rv_sweepRecord : MethodName := ⟨"RecordVersions", "sweepRecord", "(I)I"⟩
def ws_Rv_sweepRecord : List Cond := .code y_Rv_sweepRecord b_Rv_sweepRecord 4 (some .int) :: tb
abbrev b_Rv_sweep : ByteArray := prog_1_method_8_code
def y_Rv_sweep : MethodName := ⟨"RecordVersions", "sweep", "()I"⟩
def ws_Rv_sweep : List Cond := .code y_Rv_sweep b_Rv_sweep 4 (some .int) :: tb
abbrev b_Rv_flush : ByteArray := prog_1_method_9_code
def y_Rv_flush : MethodName := ⟨"RecordVersions", "flush", "()I"⟩
def ws_Rv_flush : List Cond := .code y_Rv_flush b_Rv_flush 2 (some .int) :: tb
abbrev b_Rv_fail : ByteArray := prog_1_method_10_code
def y_Rv_fail : MethodName := ⟨"RecordVersions", "fail", "(I)I"⟩
def ws_Rv_fail : List Cond := .code y_Rv_fail b_Rv_fail 3 (some .int) :: tb
abbrev b_Rv_crash : ByteArray := prog_1_method_11_code
def y_Rv_crash : MethodName := ⟨"RecordVersions", "crash", "()I"⟩
def ws_Rv_crash : List Cond := .code y_Rv_crash b_Rv_crash 2 (some .int) :: tb
abbrev b_Rv_image : ByteArray := prog_1_method_12_code
def y_Rv_image : MethodName := ⟨"RecordVersions", "image", "(I)I"⟩
def ws_Rv_image : List Cond := .code y_Rv_image b_Rv_image 2 (some .int) :: tb
abbrev b_Rv_state : ByteArray := prog_1_method_13_code
def y_Rv_state : MethodName := ⟨"RecordVersions", "state", "(I)I"⟩
def ws_Rv_state : List Cond := .code y_Rv_state b_Rv_state 2 (some .int) :: tb
abbrev b_Rv_version : ByteArray := prog_1_method_14_code
def y_Rv_version : MethodName := ⟨"RecordVersions", "version", "(III)I"⟩
def ws_Rv_version : List Cond := .code y_Rv_version b_Rv_version 5 (some .int) :: tb
abbrev b_Rv_page : ByteArray := prog_1_method_15_code
def y_Rv_page : MethodName := ⟨"RecordVersions", "page", "(I)I"⟩
def ws_Rv_page : List Cond := .code y_Rv_page b_Rv_page 2 (some .int) :: tb
abbrev b_JI_bitCount : ByteArray := prog_10_method_49_code
def y_JI_bitCount : MethodName := ⟨"java/lang/Integer", "bitCount", "(I)I"⟩
def ws_JI_bitCount : List Cond := .code y_JI_bitCount b_JI_bitCount 1 (some .int) :: tb
abbrev b_Rv_count : ByteArray := prog_1_method_16_code
def y_Rv_count : MethodName := ⟨"RecordVersions", "count", "(I)I"⟩
def ws_Rv_count : List Cond := .code y_Rv_count b_Rv_count 2 (some .int) :: tb
abbrev b_Mo_init : ByteArray := prog_5_method_1_code
def y_Mo_init : MethodName := ⟨"RecordVersionsModel", "<init>", "()V"⟩
def ws_Mo_init : List Cond := .code y_Mo_init b_Mo_init 2 none :: tb
abbrev b_Mo_thrown : ByteArray := prog_5_method_2_code
def y_Mo_thrown : MethodName := ⟨"RecordVersionsModel", "thrown", "()I"⟩
def ws_Mo_thrown : List Cond := .code y_Mo_thrown b_Mo_thrown 1 (some .int) :: tb
abbrev b_Mo_raise : ByteArray := prog_5_method_3_code
def y_Mo_raise : MethodName := ⟨"RecordVersionsModel", "raise", "(I)I"⟩
def ws_Mo_raise : List Cond := .code y_Mo_raise b_Mo_raise 2 (some .int) :: tb
abbrev b_Mo_in : ByteArray := prog_5_method_4_code
def y_Mo_in : MethodName := ⟨"RecordVersionsModel", "in", "(III)Z"⟩
def ws_Mo_in : List Cond := .code y_Mo_in b_Mo_in 3 (some .boolean) :: tb
abbrev b_Mo_pageOf : ByteArray := prog_5_method_5_code
def y_Mo_pageOf : MethodName := ⟨"RecordVersionsModel", "pageOf", "(I)I"⟩
def ws_Mo_pageOf : List Cond := .code y_Mo_pageOf b_Mo_pageOf 1 (some .int) :: tb
abbrev b_Mo_fall : ByteArray := prog_5_method_6_code
def y_Mo_fall : MethodName := ⟨"RecordVersionsModel", "fall", "()V"⟩
def ws_Mo_fall : List Cond := .code y_Mo_fall b_Mo_fall 2 none :: tb
abbrev b_Mo_put : ByteArray := prog_5_method_7_code
def y_Mo_put : MethodName := ⟨"RecordVersionsModel", "put", "(I)V"⟩
def ws_Mo_put : List Cond := .code y_Mo_put b_Mo_put 3 none :: tb
abbrev b_Mo_waitsFor : ByteArray := prog_5_method_8_code
def y_Mo_waitsFor : MethodName := ⟨"RecordVersionsModel", "waitsFor", "(I)I"⟩
def ws_Mo_waitsFor : List Cond := .code y_Mo_waitsFor b_Mo_waitsFor 3 (some .int) :: tb
abbrev b_Mo_store : ByteArray := prog_5_method_9_code
def y_Mo_store : MethodName := ⟨"RecordVersionsModel", "store", "(I)V"⟩
def ws_Mo_store : List Cond := .code y_Mo_store b_Mo_store 4 none :: tb
abbrev b_Mo_before : ByteArray := prog_5_method_10_code
def y_Mo_before : MethodName := ⟨"RecordVersionsModel", "before", "(I)I"⟩
def ws_Mo_before : List Cond := .code y_Mo_before b_Mo_before 5 (some .int) :: tb
abbrev b_Mo_note : ByteArray := prog_5_method_11_code
def y_Mo_note : MethodName := ⟨"RecordVersionsModel", "note", "(II)V"⟩
def ws_Mo_note : List Cond := .code y_Mo_note b_Mo_note 3 none :: tb
abbrev b_Mo_done : ByteArray := prog_5_method_12_code
def y_Mo_done : MethodName := ⟨"RecordVersionsModel", "done", "(I)I"⟩
def ws_Mo_done : List Cond := .code y_Mo_done b_Mo_done 2 (some .int) :: tb
abbrev b_Mo_begun : ByteArray := prog_5_method_13_code
def y_Mo_begun : MethodName := ⟨"RecordVersionsModel", "begun", "()V"⟩
def ws_Mo_begun : List Cond := .code y_Mo_begun b_Mo_begun 1 none :: tb
abbrev b_Mo_actives : ByteArray := prog_5_method_14_code
def y_Mo_actives : MethodName := ⟨"RecordVersionsModel", "actives", "()I"⟩
def ws_Mo_actives : List Cond := .code y_Mo_actives b_Mo_actives 3 (some .int) :: tb
abbrev b_Mo_idle : ByteArray := prog_5_method_15_code
def y_Mo_idle : MethodName := ⟨"RecordVersionsModel", "idle", "(I)Z"⟩
def ws_Mo_idle : List Cond := .code y_Mo_idle b_Mo_idle 2 (some .boolean) :: tb
abbrev b_Mo_begin : ByteArray := prog_5_method_16_code
def y_Mo_begin : MethodName := ⟨"RecordVersionsModel", "begin", "()I"⟩
def ws_Mo_begin : List Cond := .code y_Mo_begin b_Mo_begin 3 (some .int) :: tb
abbrev b_Mo_seen : ByteArray := prog_5_method_17_code
def y_Mo_seen : MethodName := ⟨"RecordVersionsModel", "seen", "(II)Z"⟩
def ws_Mo_seen : List Cond := .code y_Mo_seen b_Mo_seen 3 (some .boolean) :: tb
abbrev b_Mo_behind : ByteArray := prog_5_method_18_code
def y_Mo_behind : MethodName := ⟨"RecordVersionsModel", "behind", "(I)I"⟩
def ws_Mo_behind : List Cond := .code y_Mo_behind b_Mo_behind 2 (some .int) :: tb
abbrev b_Mo_reads : ByteArray := prog_5_method_19_code
def y_Mo_reads : MethodName := ⟨"RecordVersionsModel", "reads", "(II)I"⟩
def ws_Mo_reads : List Cond := .code y_Mo_reads b_Mo_reads 4 (some .int) :: tb
abbrev b_Mo_read : ByteArray := prog_5_method_20_code
def y_Mo_read : MethodName := ⟨"RecordVersionsModel", "read", "(II)I"⟩
def ws_Mo_read : List Cond := .code y_Mo_read b_Mo_read 4 (some .int) :: tb
abbrev b_Mo_free : ByteArray := prog_5_method_21_code
def y_Mo_free : MethodName := ⟨"RecordVersionsModel", "free", "(I)V"⟩
def ws_Mo_free : List Cond := .code y_Mo_free b_Mo_free 2 none :: tb
abbrev b_Mo_move : ByteArray := prog_5_method_22_code
def y_Mo_move : MethodName := ⟨"RecordVersionsModel", "move", "(II)V"⟩
def ws_Mo_move : List Cond := .code y_Mo_move b_Mo_move 3 none :: tb
abbrev b_Mo_clean : ByteArray := prog_5_method_23_code
def y_Mo_clean : MethodName := ⟨"RecordVersionsModel", "clean", "(I)V"⟩
def ws_Mo_clean : List Cond := .code y_Mo_clean b_Mo_clean 3 none :: tb
abbrev b_Mo_change : ByteArray := prog_5_method_24_code
def y_Mo_change : MethodName := ⟨"RecordVersionsModel", "change", "(III)V"⟩
def ws_Mo_change : List Cond := .code y_Mo_change b_Mo_change 6 none :: tb
abbrev b_Mo_write : ByteArray := prog_5_method_25_code
def y_Mo_write : MethodName := ⟨"RecordVersionsModel", "write", "(III)I"⟩
def ws_Mo_write : List Cond := .code y_Mo_write b_Mo_write 4 (some .int) :: tb
abbrev b_Mo_erase : ByteArray := prog_5_method_26_code
def y_Mo_erase : MethodName := ⟨"RecordVersionsModel", "erase", "(II)I"⟩
def ws_Mo_erase : List Cond := .code y_Mo_erase b_Mo_erase 3 (some .int) :: tb
abbrev b_Mo_commit : ByteArray := prog_5_method_27_code
def y_Mo_commit : MethodName := ⟨"RecordVersionsModel", "commit", "(I)I"⟩
def ws_Mo_commit : List Cond := .code y_Mo_commit b_Mo_commit 4 (some .int) :: tb
abbrev b_Mo_rollback : ByteArray := prog_5_method_28_code
def y_Mo_rollback : MethodName := ⟨"RecordVersionsModel", "rollback", "(I)I"⟩
def ws_Mo_rollback : List Cond := .code y_Mo_rollback b_Mo_rollback 2 (some .int) :: tb
abbrev b_Mo_settled : ByteArray := prog_5_method_29_code
def y_Mo_settled : MethodName := ⟨"RecordVersionsModel", "settled", "(I)Z"⟩
def ws_Mo_settled : List Cond := .code y_Mo_settled b_Mo_settled 3 (some .boolean) :: tb
abbrev b_Mo_sweepOne : ByteArray := prog_5_method_30_code
def y_Mo_sweepOne : MethodName := ⟨"RecordVersionsModel", "sweepOne", "(I)I"⟩
def ws_Mo_sweepOne : List Cond := .code y_Mo_sweepOne b_Mo_sweepOne 6 (some .int) :: tb
abbrev b_Mo_sweep : ByteArray := prog_5_method_31_code
def y_Mo_sweep : MethodName := ⟨"RecordVersionsModel", "sweep", "()I"⟩
def ws_Mo_sweep : List Cond := .code y_Mo_sweep b_Mo_sweep 3 (some .int) :: tb
abbrev b_Mo_flush : ByteArray := prog_5_method_32_code
def y_Mo_flush : MethodName := ⟨"RecordVersionsModel", "flush", "()I"⟩
def ws_Mo_flush : List Cond := .code y_Mo_flush b_Mo_flush 3 (some .int) :: tb
abbrev b_Mo_fail : ByteArray := prog_5_method_33_code
def y_Mo_fail : MethodName := ⟨"RecordVersionsModel", "fail", "(I)I"⟩
def ws_Mo_fail : List Cond := .code y_Mo_fail b_Mo_fail 3 (some .int) :: tb
abbrev b_Mo_crash : ByteArray := prog_5_method_34_code
def y_Mo_crash : MethodName := ⟨"RecordVersionsModel", "crash", "()I"⟩
def ws_Mo_crash : List Cond := .code y_Mo_crash b_Mo_crash 2 (some .int) :: tb
abbrev b_Mo_image : ByteArray := prog_5_method_35_code
def y_Mo_image : MethodName := ⟨"RecordVersionsModel", "image", "(I)I"⟩
def ws_Mo_image : List Cond := .code y_Mo_image b_Mo_image 4 (some .int) :: tb
abbrev b_Mo_state : ByteArray := prog_5_method_36_code
def y_Mo_state : MethodName := ⟨"RecordVersionsModel", "state", "(I)I"⟩
def ws_Mo_state : List Cond := .code y_Mo_state b_Mo_state 2 (some .int) :: tb
abbrev b_Mo_version : ByteArray := prog_5_method_37_code
def y_Mo_version : MethodName := ⟨"RecordVersionsModel", "version", "(III)I"⟩
def ws_Mo_version : List Cond := .code y_Mo_version b_Mo_version 6 (some .int) :: tb
abbrev b_Mo_page : ByteArray := prog_5_method_38_code
def y_Mo_page : MethodName := ⟨"RecordVersionsModel", "page", "(I)I"⟩
def ws_Mo_page : List Cond := .code y_Mo_page b_Mo_page 2 (some .int) :: tb
abbrev b_Mo_count : ByteArray := prog_5_method_39_code
def y_Mo_count : MethodName := ⟨"RecordVersionsModel", "count", "(I)I"⟩
def ws_Mo_count : List Cond := .code y_Mo_count b_Mo_count 4 (some .int) :: tb
abbrev b_La_begin : ByteArray := method_3_code
def y_La_begin : MethodName := ⟨"RecordVersionsLaw", "begin", "(LRecordVersions;[J)I"⟩
def hh_La_begin : List (Nat × Nat × Nat × Nat) := [(0, 8, 11, 13)]
def ws_La_begin : List Cond := .codeWith y_La_begin b_La_begin 3 (some .int) hh_La_begin :: tb
abbrev b_La_read : ByteArray := method_4_code
def y_La_read : MethodName := ⟨"RecordVersionsLaw", "read", "(LRecordVersions;II[J)I"⟩
def hh_La_read : List (Nat × Nat × Nat × Nat) := [(0, 10, 13, 19), (0, 10, 17, 13), (0, 10, 21, 21)]
def ws_La_read : List Cond := .codeWith y_La_read b_La_read 5 (some .int) hh_La_read :: tb
abbrev b_La_write : ByteArray := method_5_code
def y_La_write : MethodName := ⟨"RecordVersionsLaw", "write", "(LRecordVersions;III[J)I"⟩
def hh_La_write : List (Nat × Nat × Nat × Nat) := [(0, 12, 15, 19), (0, 12, 19, 13), (0, 12, 23, 27), (0, 12, 27, 29)]
def ws_La_write : List Cond := .codeWith y_La_write b_La_write 6 (some .int) hh_La_write :: tb
abbrev b_La_erase : ByteArray := method_6_code
def y_La_erase : MethodName := ⟨"RecordVersionsLaw", "erase", "(LRecordVersions;II[J)I"⟩
def hh_La_erase : List (Nat × Nat × Nat × Nat) := [(0, 10, 13, 19), (0, 10, 17, 13), (0, 10, 21, 21), (0, 10, 25, 27), (0, 10, 29, 29)]
def ws_La_erase : List Cond := .codeWith y_La_erase b_La_erase 5 (some .int) hh_La_erase :: tb
abbrev b_La_commit : ByteArray := method_7_code
def y_La_commit : MethodName := ⟨"RecordVersionsLaw", "commit", "(LRecordVersions;I[J)I"⟩
def hh_La_commit : List (Nat × Nat × Nat × Nat) := [(0, 9, 12, 13)]
def ws_La_commit : List Cond := .codeWith y_La_commit b_La_commit 4 (some .int) hh_La_commit :: tb
abbrev b_La_rollback : ByteArray := method_8_code
def y_La_rollback : MethodName := ⟨"RecordVersionsLaw", "rollback", "(LRecordVersions;I[J)I"⟩
def hh_La_rollback : List (Nat × Nat × Nat × Nat) := [(0, 9, 12, 13)]
def ws_La_rollback : List Cond := .codeWith y_La_rollback b_La_rollback 4 (some .int) hh_La_rollback :: tb
abbrev b_La_fail : ByteArray := method_9_code
def y_La_fail : MethodName := ⟨"RecordVersionsLaw", "fail", "(LRecordVersions;I[J)I"⟩
def hh_La_fail : List (Nat × Nat × Nat × Nat) := [(0, 9, 12, 19)]
def ws_La_fail : List Cond := .codeWith y_La_fail b_La_fail 4 (some .int) hh_La_fail :: tb
abbrev b_La_image : ByteArray := method_10_code
def y_La_image : MethodName := ⟨"RecordVersionsLaw", "image", "(LRecordVersions;I[J)I"⟩
def hh_La_image : List (Nat × Nat × Nat × Nat) := [(0, 9, 12, 19), (0, 9, 15, 21)]
def ws_La_image : List Cond := .codeWith y_La_image b_La_image 4 (some .int) hh_La_image :: tb
abbrev b_La_state : ByteArray := method_11_code
def y_La_state : MethodName := ⟨"RecordVersionsLaw", "state", "(LRecordVersions;I[J)I"⟩
def hh_La_state : List (Nat × Nat × Nat × Nat) := [(0, 9, 12, 19)]
def ws_La_state : List Cond := .codeWith y_La_state b_La_state 4 (some .int) hh_La_state :: tb
abbrev b_La_version : ByteArray := method_12_code
def y_La_version : MethodName := ⟨"RecordVersionsLaw", "version", "(LRecordVersions;III[J)I"⟩
def hh_La_version : List (Nat × Nat × Nat × Nat) := [(0, 12, 15, 19), (0, 12, 19, 21)]
def ws_La_version : List Cond := .codeWith y_La_version b_La_version 6 (some .int) hh_La_version :: tb
abbrev b_La_page : ByteArray := method_13_code
def y_La_page : MethodName := ⟨"RecordVersionsLaw", "page", "(LRecordVersions;I[J)I"⟩
def hh_La_page : List (Nat × Nat × Nat × Nat) := [(0, 9, 12, 19)]
def ws_La_page : List Cond := .codeWith y_La_page b_La_page 4 (some .int) hh_La_page :: tb
abbrev b_La_count : ByteArray := method_14_code
def y_La_count : MethodName := ⟨"RecordVersionsLaw", "count", "(LRecordVersions;I[J)I"⟩
def hh_La_count : List (Nat × Nat × Nat × Nat) := [(0, 9, 12, 19)]
def ws_La_count : List Cond := .codeWith y_La_count b_La_count 4 (some .int) hh_La_count :: tb
theorem k_0 : Cond.methodLink "RecordVersions$Content" 3 objectInit ∈ tb := x_in (i := 70) (by decide +kernel) rfl
theorem k_1 : Cond.instanceMethod objectInit ∈ tb := x_in (i := 57) (by decide +kernel) rfl
theorem k_2 : Cond.code objectInit ⟨#[0xb1]⟩ 1 none ∈ tb := x_in (i := 58) (by decide +kernel) rfl
theorem k_3 : Cond.arrayClass .int ∈ tb := x_in (i := 89) (by decide +kernel) rfl
theorem k_4 : Cond.fieldLink "RecordVersions$Content" 9 "RecordVersions$Content" "owners" "[I" ∈ tb := x_in (i := 71) (by decide +kernel) rfl
theorem k_5 : Cond.fieldLink "RecordVersions$Content" 15 "RecordVersions$Content" "values" "[I" ∈ tb := x_in (i := 73) (by decide +kernel) rfl
theorem k_6 : Cond.fieldLink "RecordVersions$Content" 18 "RecordVersions$Content" "links" "[I" ∈ tb := x_in (i := 75) (by decide +kernel) rfl
theorem k_7 : Cond.fieldLink "RecordVersions$Content" 21 "RecordVersions$Content" "states" "[I" ∈ tb := x_in (i := 77) (by decide +kernel) rfl
theorem k_8 : Cond.methodLink "RecordVersions$Content" 24 y_Co_fill ∈ tb := x_in (i := 156) (by decide +kernel) rfl
theorem k_9 : Cond.instanceMethod y_Co_fill ∈ tb := x_in (i := 157) (by decide +kernel) rfl
theorem k_10 : Cond.selects "RecordVersions$Content" y_Co_fill y_Co_fill ∈ tb := x_in (i := 158) (by decide +kernel) rfl
theorem k_11 : Cond.initialized "RecordVersions$Content" ∈ tb := x_in (i := 38) (by decide +kernel) rfl
theorem k_12 : Cond.code y_Co_fill b_Co_fill 5 none ∈ tb := x_in (i := 159) (by decide +kernel) rfl
theorem k_13 : Cond.methodLink "RecordVersions$Content" 28 arraycopyName ∈ tb := x_in (i := 190) (by decide +kernel) rfl
theorem k_14 : Cond.native arraycopyName ∈ tb := x_in (i := 192) (by decide +kernel) rfl
theorem k_15 : Cond.static arraycopyName ∈ tb := x_in (i := 191) (by decide +kernel) rfl
theorem k_16 : Cond.initialized "java/lang/System" ∈ tb := x_in (i := 45) (by decide +kernel) rfl
theorem k_17 : Cond.methodLink "RecordVersions$Content" 34 y_Co_next ∈ tb := x_in (i := 226) (by decide +kernel) rfl
theorem k_18 : Cond.instanceMethod y_Co_next ∈ tb := x_in (i := 227) (by decide +kernel) rfl
theorem k_19 : Cond.selects "RecordVersions$Content" y_Co_next y_Co_next ∈ tb := x_in (i := 228) (by decide +kernel) rfl
theorem k_20 : Cond.code y_Co_next b_Co_next 3 (some .int) ∈ tb := x_in (i := 229) (by decide +kernel) rfl
theorem k_21 : Cond.methodLinkNest "RecordVersions$Content" 42 y_Rv_has "RecordVersions" ∈ tb := x_in (i := 230) (by decide +kernel) rfl
theorem k_22 : Cond.static y_Rv_has ∈ tb := x_in (i := 172) (by decide +kernel) rfl
theorem k_23 : Cond.initialized "RecordVersions" ∈ tb := x_in (i := 36) (by decide +kernel) rfl
theorem k_24 : Cond.code y_Rv_has b_Rv_has 3 (some .boolean) ∈ tb := x_in (i := 173) (by decide +kernel) rfl
theorem k_25 : Cond.methodLink "RecordVersions$Content" 38 y_Co_placeAt ∈ tb := x_in (i := 222) (by decide +kernel) rfl
theorem k_26 : Cond.instanceMethod y_Co_placeAt ∈ tb := x_in (i := 223) (by decide +kernel) rfl
theorem k_27 : Cond.selects "RecordVersions$Content" y_Co_placeAt y_Co_placeAt ∈ tb := x_in (i := 224) (by decide +kernel) rfl
theorem k_28 : Cond.code y_Co_placeAt b_Co_placeAt 5 (some .int) ∈ tb := x_in (i := 225) (by decide +kernel) rfl
theorem k_29 : Cond.constantLong "java/lang/Long" 314 (6148914691236517205 : Int64) ∈ tb := x_in (i := 258) (by decide +kernel) rfl
theorem k_30 : Cond.constantLong "java/lang/Long" 316 (3689348814741910323 : Int64) ∈ tb := x_in (i := 259) (by decide +kernel) rfl
theorem k_31 : Cond.constantLong "java/lang/Long" 318 (1085102592571150095 : Int64) ∈ tb := x_in (i := 260) (by decide +kernel) rfl
theorem k_32 : Cond.methodLink "RecordVersions$Content" 50 y_JL_bitCount ∈ tb := x_in (i := 255) (by decide +kernel) rfl
theorem k_33 : Cond.static y_JL_bitCount ∈ tb := x_in (i := 256) (by decide +kernel) rfl
theorem k_34 : Cond.initialized "java/lang/Long" ∈ tb := x_in (i := 40) (by decide +kernel) rfl
theorem k_35 : Cond.code y_JL_bitCount b_JL_bitCount 2 (some .int) ∈ tb := x_in (i := 257) (by decide +kernel) rfl
theorem k_36 : Cond.methodLink "RecordVersions$Content" 46 y_Co_setIn ∈ tb := x_in (i := 214) (by decide +kernel) rfl
theorem k_37 : Cond.instanceMethod y_Co_setIn ∈ tb := x_in (i := 216) (by decide +kernel) rfl
theorem k_38 : Cond.selects "RecordVersions$Content" y_Co_setIn y_Co_setIn ∈ tb := x_in (i := 7) (by decide +kernel) rfl
theorem k_39 : Cond.code y_Co_setIn b_Co_setIn 5 (some .long) ∈ tb := x_in (i := 217) (by decide +kernel) rfl
theorem k_40 : Cond.methodLink "RecordVersions$Store" 3 objectInit ∈ tb := x_in (i := 64) (by decide +kernel) rfl
theorem k_41 : Cond.classLink "RecordVersions$Store" 9 "RecordVersions$Content" ∈ tb := x_in (i := 65) (by decide +kernel) rfl
theorem k_42 : Cond.instantiable "RecordVersions$Content" 4 ∈ tb := x_in (i := 66) (by decide +kernel) rfl
theorem k_43 : Cond.methodLink "RecordVersions$Store" 11 y_Co_init ∈ tb := x_in (i := 67) (by decide +kernel) rfl
theorem k_44 : Cond.instanceMethod y_Co_init ∈ tb := x_in (i := 68) (by decide +kernel) rfl
theorem k_45 : Cond.code y_Co_init b_Co_init 2 none ∈ tb := x_in (i := 69) (by decide +kernel) rfl
theorem k_46 : Cond.fieldLink "RecordVersions$Store" 12 "RecordVersions$Store" "memory" "LRecordVersions$Content;" ∈ tb := x_in (i := 90) (by decide +kernel) rfl
theorem k_47 : Cond.fieldLink "RecordVersions$Store" 18 "RecordVersions$Store" "disk" "LRecordVersions$Content;" ∈ tb := x_in (i := 92) (by decide +kernel) rfl
theorem k_48 : Cond.fieldLink "RecordVersions$Store" 21 "RecordVersions$Store" "earlier" "[I" ∈ tb := x_in (i := 94) (by decide +kernel) rfl
theorem k_49 : Cond.fieldLink "RecordVersions$Store" 25 "RecordVersions$Store" "dirty" "I" ∈ tb := x_in (i := 96) (by decide +kernel) rfl
theorem k_50 : Cond.fieldLink "RecordVersions$Store" 52 "RecordVersions$Store" "failure" "I" ∈ tb := x_in (i := 102) (by decide +kernel) rfl
theorem k_51 : Cond.fieldLink "RecordVersions$Store" 55 "RecordVersions$Store" "written" "I" ∈ tb := x_in (i := 99) (by decide +kernel) rfl
theorem k_52 : Cond.methodLink "RecordVersions$Store" 48 y_St_settle ∈ tb := x_in (i := 197) (by decide +kernel) rfl
theorem k_53 : Cond.instanceMethod y_St_settle ∈ tb := x_in (i := 199) (by decide +kernel) rfl
theorem k_54 : Cond.selects "RecordVersions$Store" y_St_settle y_St_settle ∈ tb := x_in (i := 5) (by decide +kernel) rfl
theorem k_55 : Cond.initialized "RecordVersions$Store" ∈ tb := x_in (i := 37) (by decide +kernel) rfl
theorem k_56 : Cond.code y_St_settle b_St_settle 3 none ∈ tb := x_in (i := 200) (by decide +kernel) rfl
theorem k_57 : Cond.methodLink "RecordVersions$Store" 44 y_Co_takePage ∈ tb := x_in (i := 186) (by decide +kernel) rfl
theorem k_58 : Cond.instanceMethod y_Co_takePage ∈ tb := x_in (i := 187) (by decide +kernel) rfl
theorem k_59 : Cond.selects "RecordVersions$Content" y_Co_takePage y_Co_takePage ∈ tb := x_in (i := 188) (by decide +kernel) rfl
theorem k_60 : Cond.code y_Co_takePage b_Co_takePage 5 none ∈ tb := x_in (i := 189) (by decide +kernel) rfl
theorem k_61 : Cond.fieldLink "RecordVersions$Store" 61 "RecordVersions$Store" "crashes" "I" ∈ tb := x_in (i := 100) (by decide +kernel) rfl
theorem k_62 : Cond.fieldLink "RecordVersions$Store" 64 "RecordVersions$Content" "states" "[I" ∈ tb := x_in (i := 79) (by decide +kernel) rfl
theorem k_63 : Cond.methodLink "RecordVersions$Store" 67 y_St_changed ∈ tb := x_in (i := 193) (by decide +kernel) rfl
theorem k_64 : Cond.instanceMethod y_St_changed ∈ tb := x_in (i := 194) (by decide +kernel) rfl
theorem k_65 : Cond.selects "RecordVersions$Store" y_St_changed y_St_changed ∈ tb := x_in (i := 195) (by decide +kernel) rfl
theorem k_66 : Cond.code y_St_changed b_St_changed 2 none ∈ tb := x_in (i := 196) (by decide +kernel) rfl
theorem k_67 : Cond.methodLink "RecordVersions$Store" 41 y_St_fall ∈ tb := x_in (i := 182) (by decide +kernel) rfl
theorem k_68 : Cond.instanceMethod y_St_fall ∈ tb := x_in (i := 183) (by decide +kernel) rfl
theorem k_69 : Cond.selects "RecordVersions$Store" y_St_fall y_St_fall ∈ tb := x_in (i := 184) (by decide +kernel) rfl
theorem k_70 : Cond.code y_St_fall b_St_fall 2 none ∈ tb := x_in (i := 185) (by decide +kernel) rfl
theorem k_71 : Cond.methodLink "RecordVersions$Store" 37 y_St_failsNow ∈ tb := x_in (i := 178) (by decide +kernel) rfl
theorem k_72 : Cond.instanceMethod y_St_failsNow ∈ tb := x_in (i := 180) (by decide +kernel) rfl
theorem k_73 : Cond.selects "RecordVersions$Store" y_St_failsNow y_St_failsNow ∈ tb := x_in (i := 4) (by decide +kernel) rfl
theorem k_74 : Cond.code y_St_failsNow b_St_failsNow 1 (some .boolean) ∈ tb := x_in (i := 181) (by decide +kernel) rfl
theorem k_75 : Cond.methodLink "RecordVersions$Store" 33 y_St_put ∈ tb := x_in (i := 174) (by decide +kernel) rfl
theorem k_76 : Cond.instanceMethod y_St_put ∈ tb := x_in (i := 176) (by decide +kernel) rfl
theorem k_77 : Cond.selects "RecordVersions$Store" y_St_put y_St_put ∈ tb := x_in (i := 3) (by decide +kernel) rfl
theorem k_78 : Cond.code y_St_put b_St_put 4 (some .boolean) ∈ tb := x_in (i := 177) (by decide +kernel) rfl
theorem k_79 : Cond.methodLinkNest "RecordVersions$Store" 29 y_Rv_has "RecordVersions" ∈ tb := x_in (i := 171) (by decide +kernel) rfl
theorem k_80 : Cond.methodLink "RecordVersions$Store" 58 y_St_mustPrecede ∈ tb := x_in (i := 167) (by decide +kernel) rfl
theorem k_81 : Cond.instanceMethod y_St_mustPrecede ∈ tb := x_in (i := 169) (by decide +kernel) rfl
theorem k_82 : Cond.selects "RecordVersions$Store" y_St_mustPrecede y_St_mustPrecede ∈ tb := x_in (i := 2) (by decide +kernel) rfl
theorem k_83 : Cond.code y_St_mustPrecede b_St_mustPrecede 6 (some .boolean) ∈ tb := x_in (i := 170) (by decide +kernel) rfl
theorem k_84 : Cond.methodLink "RecordVersions" 3 objectInit ∈ tb := x_in (i := 56) (by decide +kernel) rfl
theorem k_85 : Cond.classLink "RecordVersions" 9 "RecordVersions$Store" ∈ tb := x_in (i := 59) (by decide +kernel) rfl
theorem k_86 : Cond.instantiable "RecordVersions$Store" 7 ∈ tb := x_in (i := 60) (by decide +kernel) rfl
theorem k_87 : Cond.methodLink "RecordVersions" 11 y_St_init ∈ tb := x_in (i := 61) (by decide +kernel) rfl
theorem k_88 : Cond.instanceMethod y_St_init ∈ tb := x_in (i := 62) (by decide +kernel) rfl
theorem k_89 : Cond.code y_St_init b_St_init 1 none ∈ tb := x_in (i := 63) (by decide +kernel) rfl
theorem k_90 : Cond.fieldLink "RecordVersions" 12 "RecordVersions" "store" "LRecordVersions$Store;" ∈ tb := x_in (i := 119) (by decide +kernel) rfl
theorem k_91 : Cond.fieldLink "RecordVersions" 16 "RecordVersions$Store" "memory" "LRecordVersions$Content;" ∈ tb := x_in (i := 91) (by decide +kernel) rfl
theorem k_92 : Cond.fieldLink "RecordVersions" 20 "RecordVersions" "memory" "LRecordVersions$Content;" ∈ tb := x_in (i := 120) (by decide +kernel) rfl
theorem k_93 : Cond.arrayClass .long ∈ tb := x_in (i := 135) (by decide +kernel) rfl
theorem k_94 : Cond.fieldLink "RecordVersions" 21 "RecordVersions" "committedBefore" "[J" ∈ tb := x_in (i := 121) (by decide +kernel) rfl
theorem k_95 : Cond.fieldLink "RecordVersions" 25 "RecordVersions" "changedPages" "[I" ∈ tb := x_in (i := 122) (by decide +kernel) rfl
theorem k_96 : Cond.fieldLink "RecordVersions" 29 "RecordVersions" "behind" "[I" ∈ tb := x_in (i := 123) (by decide +kernel) rfl
theorem k_97 : Cond.classLink "RecordVersions" 41 "java/lang/IllegalStateException" ∈ tb := x_in (i := 274) (by decide +kernel) rfl
theorem k_98 : Cond.initialized "java/lang/IllegalStateException" ∈ tb := x_in (i := 44) (by decide +kernel) rfl
theorem k_99 : Cond.fieldLink "RecordVersions" 48 "RecordVersions$Content" "states" "[I" ∈ tb := x_in (i := 78) (by decide +kernel) rfl
theorem k_100 : Cond.methodLinkNest "RecordVersions" 55 y_St_put "RecordVersions" ∈ tb := x_in (i := 339) (by decide +kernel) rfl
theorem k_101 : Cond.methodLink "RecordVersions" 51 y_St_changed ∈ tb := x_in (i := 205) (by decide +kernel) rfl
theorem k_102 : Cond.methodLink "RecordVersions" 44 y_Co_committed ∈ tb := x_in (i := 210) (by decide +kernel) rfl
theorem k_103 : Cond.instanceMethod y_Co_committed ∈ tb := x_in (i := 211) (by decide +kernel) rfl
theorem k_104 : Cond.selects "RecordVersions$Content" y_Co_committed y_Co_committed ∈ tb := x_in (i := 212) (by decide +kernel) rfl
theorem k_105 : Cond.code y_Co_committed b_Co_committed 1 (some .long) ∈ tb := x_in (i := 213) (by decide +kernel) rfl
theorem k_106 : Cond.methodLink "RecordVersions" 38 y_Co_active ∈ tb := x_in (i := 251) (by decide +kernel) rfl
theorem k_107 : Cond.instanceMethod y_Co_active ∈ tb := x_in (i := 252) (by decide +kernel) rfl
theorem k_108 : Cond.selects "RecordVersions$Content" y_Co_active y_Co_active ∈ tb := x_in (i := 253) (by decide +kernel) rfl
theorem k_109 : Cond.code y_Co_active b_Co_active 1 (some .int) ∈ tb := x_in (i := 254) (by decide +kernel) rfl
theorem k_110 : Cond.methodLink "RecordVersions" 32 y_Co_leastUnused ∈ tb := x_in (i := 270) (by decide +kernel) rfl
theorem k_111 : Cond.instanceMethod y_Co_leastUnused ∈ tb := x_in (i := 271) (by decide +kernel) rfl
theorem k_112 : Cond.selects "RecordVersions$Content" y_Co_leastUnused y_Co_leastUnused ∈ tb := x_in (i := 272) (by decide +kernel) rfl
theorem k_113 : Cond.code y_Co_leastUnused b_Co_leastUnused 2 (some .int) ∈ tb := x_in (i := 273) (by decide +kernel) rfl
theorem k_114 : Cond.classLink "RecordVersions" 74 "java/lang/IllegalArgumentException" ∈ tb := x_in (i := 352) (by decide +kernel) rfl
theorem k_115 : Cond.initialized "java/lang/IllegalArgumentException" ∈ tb := x_in (i := 46) (by decide +kernel) rfl
theorem k_116 : Cond.methodLink "RecordVersions" 105 y_Co_firstOf ∈ tb := x_in (i := 218) (by decide +kernel) rfl
theorem k_117 : Cond.instanceMethod y_Co_firstOf ∈ tb := x_in (i := 219) (by decide +kernel) rfl
theorem k_118 : Cond.selects "RecordVersions$Content" y_Co_firstOf y_Co_firstOf ∈ tb := x_in (i := 220) (by decide +kernel) rfl
theorem k_119 : Cond.code y_Co_firstOf b_Co_firstOf 6 (some .int) ∈ tb := x_in (i := 221) (by decide +kernel) rfl
theorem k_120 : Cond.methodLink "RecordVersions" 139 y_Rv_seenBy ∈ tb := x_in (i := 375) (by decide +kernel) rfl
theorem k_121 : Cond.instanceMethod y_Rv_seenBy ∈ tb := x_in (i := 377) (by decide +kernel) rfl
theorem k_122 : Cond.selects "RecordVersions" y_Rv_seenBy y_Rv_seenBy ∈ tb := x_in (i := 12) (by decide +kernel) rfl
theorem k_123 : Cond.code y_Rv_seenBy b_Rv_seenBy 2 (some .long) ∈ tb := x_in (i := 378) (by decide +kernel) rfl
theorem k_124 : Cond.classLink "RecordVersions" 112 "java/util/NoSuchElementException" ∈ tb := x_in (i := 382) (by decide +kernel) rfl
theorem k_125 : Cond.initialized "java/util/NoSuchElementException" ∈ tb := x_in (i := 47) (by decide +kernel) rfl
theorem k_126 : Cond.fieldLink "RecordVersions" 118 "RecordVersions$Content" "values" "[I" ∈ tb := x_in (i := 74) (by decide +kernel) rfl
theorem k_127 : Cond.methodLink "RecordVersions" 69 y_Rv_demandValue ∈ tb := x_in (i := 379) (by decide +kernel) rfl
theorem k_128 : Cond.static y_Rv_demandValue ∈ tb := x_in (i := 380) (by decide +kernel) rfl
theorem k_129 : Cond.code y_Rv_demandValue b_Rv_demandValue 2 (some .int) ∈ tb := x_in (i := 381) (by decide +kernel) rfl
theorem k_130 : Cond.methodLink "RecordVersions" 65 y_Rv_placeSeen ∈ tb := x_in (i := 371) (by decide +kernel) rfl
theorem k_131 : Cond.instanceMethod y_Rv_placeSeen ∈ tb := x_in (i := 373) (by decide +kernel) rfl
theorem k_132 : Cond.selects "RecordVersions" y_Rv_placeSeen y_Rv_placeSeen ∈ tb := x_in (i := 11) (by decide +kernel) rfl
theorem k_133 : Cond.code y_Rv_placeSeen b_Rv_placeSeen 3 (some .int) ∈ tb := x_in (i := 374) (by decide +kernel) rfl
theorem k_134 : Cond.methodLink "RecordVersions" 62 y_Rv_demandActive ∈ tb := x_in (i := 367) (by decide +kernel) rfl
theorem k_135 : Cond.instanceMethod y_Rv_demandActive ∈ tb := x_in (i := 369) (by decide +kernel) rfl
theorem k_136 : Cond.selects "RecordVersions" y_Rv_demandActive y_Rv_demandActive ∈ tb := x_in (i := 10) (by decide +kernel) rfl
theorem k_137 : Cond.code y_Rv_demandActive b_Rv_demandActive 2 none ∈ tb := x_in (i := 370) (by decide +kernel) rfl
theorem k_138 : Cond.methodLink "RecordVersions" 59 y_Rv_demandRecord ∈ tb := x_in (i := 349) (by decide +kernel) rfl
theorem k_139 : Cond.static y_Rv_demandRecord ∈ tb := x_in (i := 350) (by decide +kernel) rfl
theorem k_140 : Cond.code y_Rv_demandRecord b_Rv_demandRecord 1 none ∈ tb := x_in (i := 351) (by decide +kernel) rfl
theorem k_141 : Cond.constant "RecordVersions" 73 (1000000 : Int32) ∈ tb := x_in (i := 406) (by decide +kernel) rfl
theorem k_142 : Cond.fieldLink "RecordVersions" 175 "RecordVersions$Content" "links" "[I" ∈ tb := x_in (i := 76) (by decide +kernel) rfl
theorem k_143 : Cond.methodLink "RecordVersions" 159 y_Rv_pageOf ∈ tb := x_in (i := 160) (by decide +kernel) rfl
theorem k_144 : Cond.static y_Rv_pageOf ∈ tb := x_in (i := 161) (by decide +kernel) rfl
theorem k_145 : Cond.code y_Rv_pageOf b_Rv_pageOf 1 (some .int) ∈ tb := x_in (i := 162) (by decide +kernel) rfl
theorem k_146 : Cond.methodLink "RecordVersions" 178 y_Co_empty ∈ tb := x_in (i := 152) (by decide +kernel) rfl
theorem k_147 : Cond.instanceMethod y_Co_empty ∈ tb := x_in (i := 153) (by decide +kernel) rfl
theorem k_148 : Cond.selects "RecordVersions$Content" y_Co_empty y_Co_empty ∈ tb := x_in (i := 154) (by decide +kernel) rfl
theorem k_149 : Cond.code y_Co_empty b_Co_empty 2 none ∈ tb := x_in (i := 155) (by decide +kernel) rfl
theorem k_150 : Cond.methodLink "RecordVersions" 165 y_Co_move ∈ tb := x_in (i := 201) (by decide +kernel) rfl
theorem k_151 : Cond.instanceMethod y_Co_move ∈ tb := x_in (i := 202) (by decide +kernel) rfl
theorem k_152 : Cond.selects "RecordVersions$Content" y_Co_move y_Co_move ∈ tb := x_in (i := 203) (by decide +kernel) rfl
theorem k_153 : Cond.code y_Co_move b_Co_move 3 none ∈ tb := x_in (i := 204) (by decide +kernel) rfl
theorem k_154 : Cond.methodLink "RecordVersions" 162 y_St_note ∈ tb := x_in (i := 163) (by decide +kernel) rfl
theorem k_155 : Cond.instanceMethod y_St_note ∈ tb := x_in (i := 164) (by decide +kernel) rfl
theorem k_156 : Cond.selects "RecordVersions$Store" y_St_note y_St_note ∈ tb := x_in (i := 165) (by decide +kernel) rfl
theorem k_157 : Cond.code y_St_note b_St_note 3 (some .boolean) ∈ tb := x_in (i := 166) (by decide +kernel) rfl
theorem k_158 : Cond.methodLink "RecordVersions" 172 y_Co_isRolled ∈ tb := x_in (i := 148) (by decide +kernel) rfl
theorem k_159 : Cond.instanceMethod y_Co_isRolled ∈ tb := x_in (i := 149) (by decide +kernel) rfl
theorem k_160 : Cond.selects "RecordVersions$Content" y_Co_isRolled y_Co_isRolled ∈ tb := x_in (i := 150) (by decide +kernel) rfl
theorem k_161 : Cond.code y_Co_isRolled b_Co_isRolled 2 (some .boolean) ∈ tb := x_in (i := 151) (by decide +kernel) rfl
theorem k_162 : Cond.fieldLink "RecordVersions" 115 "RecordVersions$Content" "owners" "[I" ∈ tb := x_in (i := 72) (by decide +kernel) rfl
theorem k_163 : Cond.methodLink "RecordVersions" 169 y_Rv_changedBy ∈ tb := x_in (i := 447) (by decide +kernel) rfl
theorem k_164 : Cond.instanceMethod y_Rv_changedBy ∈ tb := x_in (i := 449) (by decide +kernel) rfl
theorem k_165 : Cond.selects "RecordVersions" y_Rv_changedBy y_Rv_changedBy ∈ tb := x_in (i := 14) (by decide +kernel) rfl
theorem k_166 : Cond.code y_Rv_changedBy b_Rv_changedBy 3 none ∈ tb := x_in (i := 450) (by decide +kernel) rfl
theorem k_167 : Cond.methodLink "RecordVersions" 149 y_Co_fill ∈ tb := x_in (i := 427) (by decide +kernel) rfl
theorem k_168 : Cond.classLink "RecordVersions" 156 "java/lang/IndexOutOfBoundsException" ∈ tb := x_in (i := 432) (by decide +kernel) rfl
theorem k_169 : Cond.initialized "java/lang/IndexOutOfBoundsException" ∈ tb := x_in (i := 49) (by decide +kernel) rfl
theorem k_170 : Cond.methodLink "RecordVersions" 153 y_Co_leastFree ∈ tb := x_in (i := 428) (by decide +kernel) rfl
theorem k_171 : Cond.instanceMethod y_Co_leastFree ∈ tb := x_in (i := 429) (by decide +kernel) rfl
theorem k_172 : Cond.selects "RecordVersions$Content" y_Co_leastFree y_Co_leastFree ∈ tb := x_in (i := 430) (by decide +kernel) rfl
theorem k_173 : Cond.code y_Co_leastFree b_Co_leastFree 2 (some .int) ∈ tb := x_in (i := 431) (by decide +kernel) rfl
theorem k_174 : Cond.classLink "RecordVersions" 146 "java/lang/UnsupportedOperationException" ∈ tb := x_in (i := 412) (by decide +kernel) rfl
theorem k_175 : Cond.initialized "java/lang/UnsupportedOperationException" ∈ tb := x_in (i := 48) (by decide +kernel) rfl
theorem k_176 : Cond.methodLink "RecordVersions" 124 y_Rv_has ∈ tb := x_in (i := 411) (by decide +kernel) rfl
theorem k_177 : Cond.methodLink "RecordVersions" 143 y_Rv_clean ∈ tb := x_in (i := 144) (by decide +kernel) rfl
theorem k_178 : Cond.instanceMethod y_Rv_clean ∈ tb := x_in (i := 146) (by decide +kernel) rfl
theorem k_179 : Cond.selects "RecordVersions" y_Rv_clean y_Rv_clean ∈ tb := x_in (i := 1) (by decide +kernel) rfl
theorem k_180 : Cond.code y_Rv_clean b_Rv_clean 4 (some .boolean) ∈ tb := x_in (i := 147) (by decide +kernel) rfl
theorem k_181 : Cond.methodLink "RecordVersions" 77 y_Rv_change ∈ tb := x_in (i := 407) (by decide +kernel) rfl
theorem k_182 : Cond.instanceMethod y_Rv_change ∈ tb := x_in (i := 409) (by decide +kernel) rfl
theorem k_183 : Cond.selects "RecordVersions" y_Rv_change y_Rv_change ∈ tb := x_in (i := 13) (by decide +kernel) rfl
theorem k_184 : Cond.code y_Rv_change b_Rv_change 6 (some .int) ∈ tb := x_in (i := 410) (by decide +kernel) rfl
theorem k_185 : Cond.fieldLink "RecordVersions" 81 "RecordVersions$Store" "written" "I" ∈ tb := x_in (i := 98) (by decide +kernel) rfl
theorem k_186 : Cond.methodLink "RecordVersions" 85 y_St_putDirty ∈ tb := x_in (i := 243) (by decide +kernel) rfl
theorem k_187 : Cond.instanceMethod y_St_putDirty ∈ tb := x_in (i := 244) (by decide +kernel) rfl
theorem k_188 : Cond.selects "RecordVersions$Store" y_St_putDirty y_St_putDirty ∈ tb := x_in (i := 245) (by decide +kernel) rfl
theorem k_189 : Cond.code y_St_putDirty b_St_putDirty 3 (some .boolean) ∈ tb := x_in (i := 246) (by decide +kernel) rfl
theorem k_190 : Cond.methodLink "RecordVersions" 187 y_Co_chainBehind ∈ tb := x_in (i := 235) (by decide +kernel) rfl
theorem k_191 : Cond.instanceMethod y_Co_chainBehind ∈ tb := x_in (i := 236) (by decide +kernel) rfl
theorem k_192 : Cond.selects "RecordVersions$Content" y_Co_chainBehind y_Co_chainBehind ∈ tb := x_in (i := 237) (by decide +kernel) rfl
theorem k_193 : Cond.code y_Co_chainBehind b_Co_chainBehind 5 (some .int) ∈ tb := x_in (i := 238) (by decide +kernel) rfl
theorem k_194 : Cond.methodLink "RecordVersions" 184 y_Rv_cutBehind ∈ tb := x_in (i := 231) (by decide +kernel) rfl
theorem k_195 : Cond.instanceMethod y_Rv_cutBehind ∈ tb := x_in (i := 233) (by decide +kernel) rfl
theorem k_196 : Cond.selects "RecordVersions" y_Rv_cutBehind y_Rv_cutBehind ∈ tb := x_in (i := 8) (by decide +kernel) rfl
theorem k_197 : Cond.code y_Rv_cutBehind b_Rv_cutBehind 6 (some .int) ∈ tb := x_in (i := 234) (by decide +kernel) rfl
theorem k_198 : Cond.methodLink "RecordVersions" 181 y_Rv_committedForAll ∈ tb := x_in (i := 206) (by decide +kernel) rfl
theorem k_199 : Cond.instanceMethod y_Rv_committedForAll ∈ tb := x_in (i := 208) (by decide +kernel) rfl
theorem k_200 : Cond.selects "RecordVersions" y_Rv_committedForAll y_Rv_committedForAll ∈ tb := x_in (i := 6) (by decide +kernel) rfl
theorem k_201 : Cond.code y_Rv_committedForAll b_Rv_committedForAll 4 (some .long) ∈ tb := x_in (i := 209) (by decide +kernel) rfl
theorem k_202 : Cond.methodLink "RecordVersions" 89 y_Rv_sweepRecord ∈ tb := x_in (i := 140) (by decide +kernel) rfl
theorem k_203 : Cond.instanceMethod y_Rv_sweepRecord ∈ tb := x_in (i := 142) (by decide +kernel) rfl
theorem k_204 : Cond.selects "RecordVersions" y_Rv_sweepRecord y_Rv_sweepRecord ∈ tb := x_in (i := 0) (by decide +kernel) rfl
theorem k_205 : Cond.code y_Rv_sweepRecord b_Rv_sweepRecord 4 (some .int) ∈ tb := x_in (i := 143) (by decide +kernel) rfl
theorem k_206 : Cond.fieldLink "RecordVersions" 93 "RecordVersions$Store" "dirty" "I" ∈ tb := x_in (i := 97) (by decide +kernel) rfl
theorem k_207 : Cond.fieldLink "RecordVersions" 96 "RecordVersions$Store" "failure" "I" ∈ tb := x_in (i := 103) (by decide +kernel) rfl
theorem k_208 : Cond.methodLink "RecordVersions" 99 y_St_fall ∈ tb := x_in (i := 261) (by decide +kernel) rfl
theorem k_209 : Cond.fieldLink "RecordVersions" 102 "RecordVersions$Store" "disk" "LRecordVersions$Content;" ∈ tb := x_in (i := 93) (by decide +kernel) rfl
theorem k_210 : Cond.methodLink "RecordVersions" 109 y_Co_placeAt ∈ tb := x_in (i := 500) (by decide +kernel) rfl
theorem k_211 : Cond.fieldLink "RecordVersions" 121 "RecordVersions$Store" "earlier" "[I" ∈ tb := x_in (i := 95) (by decide +kernel) rfl
theorem k_212 : Cond.methodLink "RecordVersions" 128 y_Co_freeSlots ∈ tb := x_in (i := 515) (by decide +kernel) rfl
theorem k_213 : Cond.instanceMethod y_Co_freeSlots ∈ tb := x_in (i := 516) (by decide +kernel) rfl
theorem k_214 : Cond.selects "RecordVersions$Content" y_Co_freeSlots y_Co_freeSlots ∈ tb := x_in (i := 517) (by decide +kernel) rfl
theorem k_215 : Cond.code y_Co_freeSlots b_Co_freeSlots 3 (some .int) ∈ tb := x_in (i := 518) (by decide +kernel) rfl
theorem k_216 : Cond.fieldLink "RecordVersions" 131 "RecordVersions$Store" "crashes" "I" ∈ tb := x_in (i := 101) (by decide +kernel) rfl
theorem k_217 : Cond.constant "java/lang/Integer" 265 (1431655765 : Int32) ∈ tb := x_in (i := 522) (by decide +kernel) rfl
theorem k_218 : Cond.constant "java/lang/Integer" 266 (858993459 : Int32) ∈ tb := x_in (i := 523) (by decide +kernel) rfl
theorem k_219 : Cond.constant "java/lang/Integer" 267 (252645135 : Int32) ∈ tb := x_in (i := 524) (by decide +kernel) rfl
theorem k_220 : Cond.methodLink "RecordVersions" 134 y_JI_bitCount ∈ tb := x_in (i := 519) (by decide +kernel) rfl
theorem k_221 : Cond.static y_JI_bitCount ∈ tb := x_in (i := 520) (by decide +kernel) rfl
theorem k_222 : Cond.initialized "java/lang/Integer" ∈ tb := x_in (i := 50) (by decide +kernel) rfl
theorem k_223 : Cond.code y_JI_bitCount b_JI_bitCount 1 (some .int) ∈ tb := x_in (i := 521) (by decide +kernel) rfl
theorem k_224 : Cond.methodLink "RecordVersionsModel" 1 objectInit ∈ tb := x_in (i := 530) (by decide +kernel) rfl
theorem k_225 : Cond.fieldLink "RecordVersionsModel" 7 "RecordVersionsModel" "by" "[I" ∈ tb := x_in (i := 532) (by decide +kernel) rfl
theorem k_226 : Cond.fieldLink "RecordVersionsModel" 13 "RecordVersionsModel" "value" "[I" ∈ tb := x_in (i := 533) (by decide +kernel) rfl
theorem k_227 : Cond.fieldLink "RecordVersionsModel" 16 "RecordVersionsModel" "link" "[I" ∈ tb := x_in (i := 534) (by decide +kernel) rfl
theorem k_228 : Cond.fieldLink "RecordVersionsModel" 19 "RecordVersionsModel" "diskBy" "[I" ∈ tb := x_in (i := 535) (by decide +kernel) rfl
theorem k_229 : Cond.fieldLink "RecordVersionsModel" 22 "RecordVersionsModel" "diskValue" "[I" ∈ tb := x_in (i := 536) (by decide +kernel) rfl
theorem k_230 : Cond.fieldLink "RecordVersionsModel" 25 "RecordVersionsModel" "diskLink" "[I" ∈ tb := x_in (i := 537) (by decide +kernel) rfl
theorem k_231 : Cond.fieldLink "RecordVersionsModel" 28 "RecordVersionsModel" "states" "[I" ∈ tb := x_in (i := 538) (by decide +kernel) rfl
theorem k_232 : Cond.fieldLink "RecordVersionsModel" 31 "RecordVersionsModel" "diskStates" "[I" ∈ tb := x_in (i := 539) (by decide +kernel) rfl
theorem k_233 : Cond.arrayClass .boolean ∈ tb := x_in (i := 589) (by decide +kernel) rfl
theorem k_234 : Cond.fieldLink "RecordVersionsModel" 34 "RecordVersionsModel" "dirty" "[Z" ∈ tb := x_in (i := 540) (by decide +kernel) rfl
theorem k_235 : Cond.fieldLink "RecordVersionsModel" 38 "RecordVersionsModel" "first" "[I" ∈ tb := x_in (i := 541) (by decide +kernel) rfl
theorem k_236 : Cond.fieldLink "RecordVersionsModel" 41 "RecordVersionsModel" "touched" "[I" ∈ tb := x_in (i := 542) (by decide +kernel) rfl
theorem k_237 : Cond.fieldLink "RecordVersionsModel" 44 "RecordVersionsModel" "sees" "[J" ∈ tb := x_in (i := 543) (by decide +kernel) rfl
theorem k_238 : Cond.fieldLink "RecordVersionsModel" 48 "RecordVersionsModel" "pile" "[I" ∈ tb := x_in (i := 544) (by decide +kernel) rfl
theorem k_239 : Cond.fieldLink "RecordVersionsModel" 51 "RecordVersionsModel" "thrown" "I" ∈ tb := x_in (i := 531) (by decide +kernel) rfl
theorem k_240 : Cond.fieldLink "RecordVersionsModel" 55 "RecordVersionsModel" "crashes" "I" ∈ tb := x_in (i := 546) (by decide +kernel) rfl
theorem k_241 : Cond.fieldLink "RecordVersionsModel" 58 "RecordVersionsModel" "crashed" "Z" ∈ tb := x_in (i := 548) (by decide +kernel) rfl
theorem k_242 : Cond.fieldLink "RecordVersionsModel" 62 "RecordVersionsModel" "left" "I" ∈ tb := x_in (i := 547) (by decide +kernel) rfl
theorem k_243 : Cond.fieldLink "RecordVersionsModel" 72 "RecordVersionsModel" "written" "I" ∈ tb := x_in (i := 545) (by decide +kernel) rfl
theorem k_244 : Cond.methodLink "RecordVersionsModel" 68 y_Mo_pageOf ∈ tb := x_in (i := 626) (by decide +kernel) rfl
theorem k_245 : Cond.static y_Mo_pageOf ∈ tb := x_in (i := 627) (by decide +kernel) rfl
theorem k_246 : Cond.initialized "RecordVersionsModel" ∈ tb := x_in (i := 39) (by decide +kernel) rfl
theorem k_247 : Cond.code y_Mo_pageOf b_Mo_pageOf 1 (some .int) ∈ tb := x_in (i := 628) (by decide +kernel) rfl
theorem k_248 : Cond.methodLink "RecordVersionsModel" 65 y_Mo_fall ∈ tb := x_in (i := 622) (by decide +kernel) rfl
theorem k_249 : Cond.instanceMethod y_Mo_fall ∈ tb := x_in (i := 624) (by decide +kernel) rfl
theorem k_250 : Cond.selects "RecordVersionsModel" y_Mo_fall y_Mo_fall ∈ tb := x_in (i := 21) (by decide +kernel) rfl
theorem k_251 : Cond.code y_Mo_fall b_Mo_fall 2 none ∈ tb := x_in (i := 625) (by decide +kernel) rfl
theorem k_252 : Cond.methodLink "RecordVersionsModel" 78 y_Mo_put ∈ tb := x_in (i := 618) (by decide +kernel) rfl
theorem k_253 : Cond.instanceMethod y_Mo_put ∈ tb := x_in (i := 620) (by decide +kernel) rfl
theorem k_254 : Cond.selects "RecordVersionsModel" y_Mo_put y_Mo_put ∈ tb := x_in (i := 20) (by decide +kernel) rfl
theorem k_255 : Cond.code y_Mo_put b_Mo_put 3 none ∈ tb := x_in (i := 621) (by decide +kernel) rfl
theorem k_256 : Cond.methodLink "RecordVersionsModel" 75 y_Mo_waitsFor ∈ tb := x_in (i := 614) (by decide +kernel) rfl
theorem k_257 : Cond.instanceMethod y_Mo_waitsFor ∈ tb := x_in (i := 616) (by decide +kernel) rfl
theorem k_258 : Cond.selects "RecordVersionsModel" y_Mo_waitsFor y_Mo_waitsFor ∈ tb := x_in (i := 19) (by decide +kernel) rfl
theorem k_259 : Cond.code y_Mo_waitsFor b_Mo_waitsFor 3 (some .int) ∈ tb := x_in (i := 617) (by decide +kernel) rfl
theorem k_260 : Cond.methodLink "RecordVersionsModel" 85 y_Mo_store ∈ tb := x_in (i := 610) (by decide +kernel) rfl
theorem k_261 : Cond.instanceMethod y_Mo_store ∈ tb := x_in (i := 612) (by decide +kernel) rfl
theorem k_262 : Cond.selects "RecordVersionsModel" y_Mo_store y_Mo_store ∈ tb := x_in (i := 18) (by decide +kernel) rfl
theorem k_263 : Cond.code y_Mo_store b_Mo_store 4 none ∈ tb := x_in (i := 613) (by decide +kernel) rfl
theorem k_264 : Cond.methodLink "RecordVersionsModel" 82 y_Mo_before ∈ tb := x_in (i := 677) (by decide +kernel) rfl
theorem k_265 : Cond.instanceMethod y_Mo_before ∈ tb := x_in (i := 679) (by decide +kernel) rfl
theorem k_266 : Cond.selects "RecordVersionsModel" y_Mo_before y_Mo_before ∈ tb := x_in (i := 31) (by decide +kernel) rfl
theorem k_267 : Cond.code y_Mo_before b_Mo_before 5 (some .int) ∈ tb := x_in (i := 680) (by decide +kernel) rfl
theorem k_268 : Cond.fieldLink "RecordVersionsModel" 88 "RecordVersionsModel" "refusal" "I" ∈ tb := x_in (i := 549) (by decide +kernel) rfl
theorem k_269 : Cond.methodLink "RecordVersionsModel" 91 y_Mo_in ∈ tb := x_in (i := 637) (by decide +kernel) rfl
theorem k_270 : Cond.static y_Mo_in ∈ tb := x_in (i := 638) (by decide +kernel) rfl
theorem k_271 : Cond.code y_Mo_in b_Mo_in 3 (some .boolean) ∈ tb := x_in (i := 639) (by decide +kernel) rfl
theorem k_272 : Cond.methodLink "RecordVersionsModel" 102 y_Mo_raise ∈ tb := x_in (i := 606) (by decide +kernel) rfl
theorem k_273 : Cond.instanceMethod y_Mo_raise ∈ tb := x_in (i := 608) (by decide +kernel) rfl
theorem k_274 : Cond.selects "RecordVersionsModel" y_Mo_raise y_Mo_raise ∈ tb := x_in (i := 17) (by decide +kernel) rfl
theorem k_275 : Cond.code y_Mo_raise b_Mo_raise 2 (some .int) ∈ tb := x_in (i := 609) (by decide +kernel) rfl
theorem k_276 : Cond.methodLink "RecordVersionsModel" 105 y_Mo_done ∈ tb := x_in (i := 629) (by decide +kernel) rfl
theorem k_277 : Cond.instanceMethod y_Mo_done ∈ tb := x_in (i := 631) (by decide +kernel) rfl
theorem k_278 : Cond.selects "RecordVersionsModel" y_Mo_done y_Mo_done ∈ tb := x_in (i := 22) (by decide +kernel) rfl
theorem k_279 : Cond.code y_Mo_done b_Mo_done 2 (some .int) ∈ tb := x_in (i := 632) (by decide +kernel) rfl
theorem k_280 : Cond.methodLink "RecordVersionsModel" 98 y_Mo_actives ∈ tb := x_in (i := 602) (by decide +kernel) rfl
theorem k_281 : Cond.instanceMethod y_Mo_actives ∈ tb := x_in (i := 604) (by decide +kernel) rfl
theorem k_282 : Cond.selects "RecordVersionsModel" y_Mo_actives y_Mo_actives ∈ tb := x_in (i := 16) (by decide +kernel) rfl
theorem k_283 : Cond.code y_Mo_actives b_Mo_actives 3 (some .int) ∈ tb := x_in (i := 605) (by decide +kernel) rfl
theorem k_284 : Cond.methodLink "RecordVersionsModel" 95 y_Mo_begun ∈ tb := x_in (i := 598) (by decide +kernel) rfl
theorem k_285 : Cond.instanceMethod y_Mo_begun ∈ tb := x_in (i := 600) (by decide +kernel) rfl
theorem k_286 : Cond.selects "RecordVersionsModel" y_Mo_begun y_Mo_begun ∈ tb := x_in (i := 15) (by decide +kernel) rfl
theorem k_287 : Cond.code y_Mo_begun b_Mo_begun 1 none ∈ tb := x_in (i := 601) (by decide +kernel) rfl
theorem k_288 : Cond.methodLink "RecordVersionsModel" 112 y_Mo_behind ∈ tb := x_in (i := 652) (by decide +kernel) rfl
theorem k_289 : Cond.instanceMethod y_Mo_behind ∈ tb := x_in (i := 654) (by decide +kernel) rfl
theorem k_290 : Cond.selects "RecordVersionsModel" y_Mo_behind y_Mo_behind ∈ tb := x_in (i := 26) (by decide +kernel) rfl
theorem k_291 : Cond.code y_Mo_behind b_Mo_behind 2 (some .int) ∈ tb := x_in (i := 655) (by decide +kernel) rfl
theorem k_292 : Cond.methodLink "RecordVersionsModel" 108 y_Mo_seen ∈ tb := x_in (i := 648) (by decide +kernel) rfl
theorem k_293 : Cond.instanceMethod y_Mo_seen ∈ tb := x_in (i := 650) (by decide +kernel) rfl
theorem k_294 : Cond.selects "RecordVersionsModel" y_Mo_seen y_Mo_seen ∈ tb := x_in (i := 25) (by decide +kernel) rfl
theorem k_295 : Cond.code y_Mo_seen b_Mo_seen 3 (some .boolean) ∈ tb := x_in (i := 651) (by decide +kernel) rfl
theorem k_296 : Cond.methodLink "RecordVersionsModel" 119 y_Mo_reads ∈ tb := x_in (i := 644) (by decide +kernel) rfl
theorem k_297 : Cond.instanceMethod y_Mo_reads ∈ tb := x_in (i := 646) (by decide +kernel) rfl
theorem k_298 : Cond.selects "RecordVersionsModel" y_Mo_reads y_Mo_reads ∈ tb := x_in (i := 24) (by decide +kernel) rfl
theorem k_299 : Cond.code y_Mo_reads b_Mo_reads 4 (some .int) ∈ tb := x_in (i := 647) (by decide +kernel) rfl
theorem k_300 : Cond.methodLink "RecordVersionsModel" 115 y_Mo_idle ∈ tb := x_in (i := 640) (by decide +kernel) rfl
theorem k_301 : Cond.instanceMethod y_Mo_idle ∈ tb := x_in (i := 642) (by decide +kernel) rfl
theorem k_302 : Cond.selects "RecordVersionsModel" y_Mo_idle y_Mo_idle ∈ tb := x_in (i := 23) (by decide +kernel) rfl
theorem k_303 : Cond.code y_Mo_idle b_Mo_idle 2 (some .boolean) ∈ tb := x_in (i := 643) (by decide +kernel) rfl
theorem k_304 : Cond.methodLink "RecordVersionsModel" 123 y_Mo_free ∈ tb := x_in (i := 669) (by decide +kernel) rfl
theorem k_305 : Cond.instanceMethod y_Mo_free ∈ tb := x_in (i := 671) (by decide +kernel) rfl
theorem k_306 : Cond.selects "RecordVersionsModel" y_Mo_free y_Mo_free ∈ tb := x_in (i := 29) (by decide +kernel) rfl
theorem k_307 : Cond.code y_Mo_free b_Mo_free 2 none ∈ tb := x_in (i := 672) (by decide +kernel) rfl
theorem k_308 : Cond.methodLink "RecordVersionsModel" 130 y_Mo_move ∈ tb := x_in (i := 681) (by decide +kernel) rfl
theorem k_309 : Cond.instanceMethod y_Mo_move ∈ tb := x_in (i := 683) (by decide +kernel) rfl
theorem k_310 : Cond.selects "RecordVersionsModel" y_Mo_move y_Mo_move ∈ tb := x_in (i := 32) (by decide +kernel) rfl
theorem k_311 : Cond.code y_Mo_move b_Mo_move 3 none ∈ tb := x_in (i := 684) (by decide +kernel) rfl
theorem k_312 : Cond.methodLink "RecordVersionsModel" 126 y_Mo_note ∈ tb := x_in (i := 673) (by decide +kernel) rfl
theorem k_313 : Cond.instanceMethod y_Mo_note ∈ tb := x_in (i := 675) (by decide +kernel) rfl
theorem k_314 : Cond.selects "RecordVersionsModel" y_Mo_note y_Mo_note ∈ tb := x_in (i := 30) (by decide +kernel) rfl
theorem k_315 : Cond.code y_Mo_note b_Mo_note 3 none ∈ tb := x_in (i := 676) (by decide +kernel) rfl
theorem k_316 : Cond.methodLink "RecordVersionsModel" 133 y_Mo_clean ∈ tb := x_in (i := 665) (by decide +kernel) rfl
theorem k_317 : Cond.instanceMethod y_Mo_clean ∈ tb := x_in (i := 667) (by decide +kernel) rfl
theorem k_318 : Cond.selects "RecordVersionsModel" y_Mo_clean y_Mo_clean ∈ tb := x_in (i := 28) (by decide +kernel) rfl
theorem k_319 : Cond.code y_Mo_clean b_Mo_clean 3 none ∈ tb := x_in (i := 668) (by decide +kernel) rfl
theorem k_320 : Cond.constant "RecordVersionsModel" 136 (1000000 : Int32) ∈ tb := x_in (i := 660) (by decide +kernel) rfl
theorem k_321 : Cond.methodLink "RecordVersionsModel" 137 y_Mo_change ∈ tb := x_in (i := 661) (by decide +kernel) rfl
theorem k_322 : Cond.instanceMethod y_Mo_change ∈ tb := x_in (i := 663) (by decide +kernel) rfl
theorem k_323 : Cond.selects "RecordVersionsModel" y_Mo_change y_Mo_change ∈ tb := x_in (i := 27) (by decide +kernel) rfl
theorem k_324 : Cond.code y_Mo_change b_Mo_change 6 none ∈ tb := x_in (i := 664) (by decide +kernel) rfl
theorem k_325 : Cond.methodLink "RecordVersionsModel" 141 y_Mo_settled ∈ tb := x_in (i := 705) (by decide +kernel) rfl
theorem k_326 : Cond.instanceMethod y_Mo_settled ∈ tb := x_in (i := 707) (by decide +kernel) rfl
theorem k_327 : Cond.selects "RecordVersionsModel" y_Mo_settled y_Mo_settled ∈ tb := x_in (i := 34) (by decide +kernel) rfl
theorem k_328 : Cond.code y_Mo_settled b_Mo_settled 3 (some .boolean) ∈ tb := x_in (i := 708) (by decide +kernel) rfl
theorem k_329 : Cond.methodLink "RecordVersionsModel" 144 y_Mo_sweepOne ∈ tb := x_in (i := 701) (by decide +kernel) rfl
theorem k_330 : Cond.instanceMethod y_Mo_sweepOne ∈ tb := x_in (i := 703) (by decide +kernel) rfl
theorem k_331 : Cond.selects "RecordVersionsModel" y_Mo_sweepOne y_Mo_sweepOne ∈ tb := x_in (i := 33) (by decide +kernel) rfl
theorem k_332 : Cond.code y_Mo_sweepOne b_Mo_sweepOne 6 (some .int) ∈ tb := x_in (i := 704) (by decide +kernel) rfl
theorem k_333 : Cond.methodLink "RecordVersionsLaw" 7 y_Rv_begin ∈ tb := x_in (i := 266) (by decide +kernel) rfl
theorem k_334 : Cond.instanceMethod y_Rv_begin ∈ tb := x_in (i := 267) (by decide +kernel) rfl
theorem k_335 : Cond.selects "RecordVersions" y_Rv_begin y_Rv_begin ∈ tb := x_in (i := 268) (by decide +kernel) rfl
theorem k_336 : Cond.code y_Rv_begin b_Rv_begin 2 (some .int) ∈ tb := x_in (i := 269) (by decide +kernel) rfl
theorem k_337 : Cond.classLink "RecordVersionsLaw" 13 "java/lang/IllegalStateException" ∈ tb := x_in (i := 265) (by decide +kernel) rfl
theorem k_338 : Cond.castable "java/lang/IllegalStateException" "java/lang/IllegalStateException" ∈ tb := x_in (i := 276) (by decide +kernel) rfl
theorem k_339 : Cond.methodLink "RecordVersionsLaw" 15 y_Rv_read ∈ tb := x_in (i := 345) (by decide +kernel) rfl
theorem k_340 : Cond.instanceMethod y_Rv_read ∈ tb := x_in (i := 346) (by decide +kernel) rfl
theorem k_341 : Cond.selects "RecordVersions" y_Rv_read y_Rv_read ∈ tb := x_in (i := 347) (by decide +kernel) rfl
theorem k_342 : Cond.code y_Rv_read b_Rv_read 3 (some .int) ∈ tb := x_in (i := 348) (by decide +kernel) rfl
theorem k_343 : Cond.classLink "RecordVersionsLaw" 19 "java/lang/IllegalArgumentException" ∈ tb := x_in (i := 343) (by decide +kernel) rfl
theorem k_344 : Cond.castable "java/lang/IllegalArgumentException" "java/lang/IllegalArgumentException" ∈ tb := x_in (i := 354) (by decide +kernel) rfl
theorem k_345 : Cond.classLink "RecordVersionsLaw" 21 "java/util/NoSuchElementException" ∈ tb := x_in (i := 344) (by decide +kernel) rfl
theorem k_346 : Cond.castable "java/util/NoSuchElementException" "java/util/NoSuchElementException" ∈ tb := x_in (i := 384) (by decide +kernel) rfl
theorem k_347 : Cond.methodLink "RecordVersionsLaw" 23 y_Rv_write ∈ tb := x_in (i := 402) (by decide +kernel) rfl
theorem k_348 : Cond.instanceMethod y_Rv_write ∈ tb := x_in (i := 403) (by decide +kernel) rfl
theorem k_349 : Cond.selects "RecordVersions" y_Rv_write y_Rv_write ∈ tb := x_in (i := 404) (by decide +kernel) rfl
theorem k_350 : Cond.code y_Rv_write b_Rv_write 4 (some .int) ∈ tb := x_in (i := 405) (by decide +kernel) rfl
theorem k_351 : Cond.classLink "RecordVersionsLaw" 27 "java/lang/UnsupportedOperationException" ∈ tb := x_in (i := 400) (by decide +kernel) rfl
theorem k_352 : Cond.castable "java/lang/UnsupportedOperationException" "java/lang/UnsupportedOperationException" ∈ tb := x_in (i := 414) (by decide +kernel) rfl
theorem k_353 : Cond.classLink "RecordVersionsLaw" 29 "java/lang/IndexOutOfBoundsException" ∈ tb := x_in (i := 401) (by decide +kernel) rfl
theorem k_354 : Cond.castable "java/lang/IndexOutOfBoundsException" "java/lang/IndexOutOfBoundsException" ∈ tb := x_in (i := 434) (by decide +kernel) rfl
theorem k_355 : Cond.methodLink "RecordVersionsLaw" 31 y_Rv_erase ∈ tb := x_in (i := 454) (by decide +kernel) rfl
theorem k_356 : Cond.instanceMethod y_Rv_erase ∈ tb := x_in (i := 455) (by decide +kernel) rfl
theorem k_357 : Cond.selects "RecordVersions" y_Rv_erase y_Rv_erase ∈ tb := x_in (i := 456) (by decide +kernel) rfl
theorem k_358 : Cond.code y_Rv_erase b_Rv_erase 3 (some .int) ∈ tb := x_in (i := 457) (by decide +kernel) rfl
theorem k_359 : Cond.methodLink "RecordVersionsLaw" 34 y_Rv_commit ∈ tb := x_in (i := 461) (by decide +kernel) rfl
theorem k_360 : Cond.instanceMethod y_Rv_commit ∈ tb := x_in (i := 462) (by decide +kernel) rfl
theorem k_361 : Cond.selects "RecordVersions" y_Rv_commit y_Rv_commit ∈ tb := x_in (i := 463) (by decide +kernel) rfl
theorem k_362 : Cond.code y_Rv_commit b_Rv_commit 3 (some .int) ∈ tb := x_in (i := 464) (by decide +kernel) rfl
theorem k_363 : Cond.methodLink "RecordVersionsLaw" 38 y_Rv_rollback ∈ tb := x_in (i := 468) (by decide +kernel) rfl
theorem k_364 : Cond.instanceMethod y_Rv_rollback ∈ tb := x_in (i := 469) (by decide +kernel) rfl
theorem k_365 : Cond.selects "RecordVersions" y_Rv_rollback y_Rv_rollback ∈ tb := x_in (i := 470) (by decide +kernel) rfl
theorem k_366 : Cond.code y_Rv_rollback b_Rv_rollback 2 (some .int) ∈ tb := x_in (i := 471) (by decide +kernel) rfl
theorem k_367 : Cond.methodLink "RecordVersionsLaw" 41 y_Rv_fail ∈ tb := x_in (i := 475) (by decide +kernel) rfl
theorem k_368 : Cond.instanceMethod y_Rv_fail ∈ tb := x_in (i := 476) (by decide +kernel) rfl
theorem k_369 : Cond.selects "RecordVersions" y_Rv_fail y_Rv_fail ∈ tb := x_in (i := 477) (by decide +kernel) rfl
theorem k_370 : Cond.code y_Rv_fail b_Rv_fail 3 (some .int) ∈ tb := x_in (i := 478) (by decide +kernel) rfl
theorem k_371 : Cond.methodLink "RecordVersionsLaw" 44 y_Rv_image ∈ tb := x_in (i := 482) (by decide +kernel) rfl
theorem k_372 : Cond.instanceMethod y_Rv_image ∈ tb := x_in (i := 483) (by decide +kernel) rfl
theorem k_373 : Cond.selects "RecordVersions" y_Rv_image y_Rv_image ∈ tb := x_in (i := 484) (by decide +kernel) rfl
theorem k_374 : Cond.code y_Rv_image b_Rv_image 2 (some .int) ∈ tb := x_in (i := 485) (by decide +kernel) rfl
theorem k_375 : Cond.methodLink "RecordVersionsLaw" 47 y_Rv_state ∈ tb := x_in (i := 489) (by decide +kernel) rfl
theorem k_376 : Cond.instanceMethod y_Rv_state ∈ tb := x_in (i := 490) (by decide +kernel) rfl
theorem k_377 : Cond.selects "RecordVersions" y_Rv_state y_Rv_state ∈ tb := x_in (i := 491) (by decide +kernel) rfl
theorem k_378 : Cond.code y_Rv_state b_Rv_state 2 (some .int) ∈ tb := x_in (i := 492) (by decide +kernel) rfl
theorem k_379 : Cond.methodLink "RecordVersionsLaw" 50 y_Rv_version ∈ tb := x_in (i := 496) (by decide +kernel) rfl
theorem k_380 : Cond.instanceMethod y_Rv_version ∈ tb := x_in (i := 497) (by decide +kernel) rfl
theorem k_381 : Cond.selects "RecordVersions" y_Rv_version y_Rv_version ∈ tb := x_in (i := 498) (by decide +kernel) rfl
theorem k_382 : Cond.code y_Rv_version b_Rv_version 5 (some .int) ∈ tb := x_in (i := 499) (by decide +kernel) rfl
theorem k_383 : Cond.methodLink "RecordVersionsLaw" 53 y_Rv_page ∈ tb := x_in (i := 504) (by decide +kernel) rfl
theorem k_384 : Cond.instanceMethod y_Rv_page ∈ tb := x_in (i := 505) (by decide +kernel) rfl
theorem k_385 : Cond.selects "RecordVersions" y_Rv_page y_Rv_page ∈ tb := x_in (i := 506) (by decide +kernel) rfl
theorem k_386 : Cond.code y_Rv_page b_Rv_page 2 (some .int) ∈ tb := x_in (i := 507) (by decide +kernel) rfl
theorem k_387 : Cond.methodLink "RecordVersionsLaw" 56 y_Rv_count ∈ tb := x_in (i := 511) (by decide +kernel) rfl
theorem k_388 : Cond.instanceMethod y_Rv_count ∈ tb := x_in (i := 512) (by decide +kernel) rfl
theorem k_389 : Cond.selects "RecordVersions" y_Rv_count y_Rv_count ∈ tb := x_in (i := 513) (by decide +kernel) rfl
theorem k_390 : Cond.code y_Rv_count b_Rv_count 2 (some .int) ∈ tb := x_in (i := 514) (by decide +kernel) rfl
theorem k_391 : Cond.methodLink "RecordVersionsLaw" 69 y_Mo_thrown ∈ tb := x_in (i := 590) (by decide +kernel) rfl
theorem k_392 : Cond.instanceMethod y_Mo_thrown ∈ tb := x_in (i := 591) (by decide +kernel) rfl
theorem k_393 : Cond.selects "RecordVersionsModel" y_Mo_thrown y_Mo_thrown ∈ tb := x_in (i := 592) (by decide +kernel) rfl
theorem k_394 : Cond.code y_Mo_thrown b_Mo_thrown 1 (some .int) ∈ tb := x_in (i := 593) (by decide +kernel) rfl
theorem k_395 : Cond.methodLink "RecordVersionsLaw" 68 y_Mo_begin ∈ tb := x_in (i := 594) (by decide +kernel) rfl
theorem k_396 : Cond.instanceMethod y_Mo_begin ∈ tb := x_in (i := 595) (by decide +kernel) rfl
theorem k_397 : Cond.selects "RecordVersionsModel" y_Mo_begin y_Mo_begin ∈ tb := x_in (i := 596) (by decide +kernel) rfl
theorem k_398 : Cond.code y_Mo_begin b_Mo_begin 3 (some .int) ∈ tb := x_in (i := 597) (by decide +kernel) rfl
theorem k_399 : Cond.methodLink "RecordVersionsLaw" 63 y_La_begin ∈ tb := x_in (i := 262) (by decide +kernel) rfl
theorem k_400 : Cond.static y_La_begin ∈ tb := x_in (i := 263) (by decide +kernel) rfl
theorem k_401 : Cond.initialized "RecordVersionsLaw" ∈ tb := x_in (i := 35) (by decide +kernel) rfl
theorem k_402 : Cond.codeWith y_La_begin b_La_begin 3 (some .int) hh_La_begin ∈ tb := x_in (i := 264) (by decide +kernel) rfl
theorem k_403 : Cond.methodLink "RecordVersionsLaw" 75 y_Mo_read ∈ tb := x_in (i := 633) (by decide +kernel) rfl
theorem k_404 : Cond.instanceMethod y_Mo_read ∈ tb := x_in (i := 634) (by decide +kernel) rfl
theorem k_405 : Cond.selects "RecordVersionsModel" y_Mo_read y_Mo_read ∈ tb := x_in (i := 635) (by decide +kernel) rfl
theorem k_406 : Cond.code y_Mo_read b_Mo_read 4 (some .int) ∈ tb := x_in (i := 636) (by decide +kernel) rfl
theorem k_407 : Cond.methodLink "RecordVersionsLaw" 72 y_La_read ∈ tb := x_in (i := 340) (by decide +kernel) rfl
theorem k_408 : Cond.static y_La_read ∈ tb := x_in (i := 341) (by decide +kernel) rfl
theorem k_409 : Cond.codeWith y_La_read b_La_read 5 (some .int) hh_La_read ∈ tb := x_in (i := 342) (by decide +kernel) rfl
theorem k_410 : Cond.methodLink "RecordVersionsLaw" 79 y_Mo_write ∈ tb := x_in (i := 656) (by decide +kernel) rfl
theorem k_411 : Cond.instanceMethod y_Mo_write ∈ tb := x_in (i := 657) (by decide +kernel) rfl
theorem k_412 : Cond.selects "RecordVersionsModel" y_Mo_write y_Mo_write ∈ tb := x_in (i := 658) (by decide +kernel) rfl
theorem k_413 : Cond.code y_Mo_write b_Mo_write 4 (some .int) ∈ tb := x_in (i := 659) (by decide +kernel) rfl
theorem k_414 : Cond.methodLink "RecordVersionsLaw" 76 y_La_write ∈ tb := x_in (i := 397) (by decide +kernel) rfl
theorem k_415 : Cond.static y_La_write ∈ tb := x_in (i := 398) (by decide +kernel) rfl
theorem k_416 : Cond.codeWith y_La_write b_La_write 6 (some .int) hh_La_write ∈ tb := x_in (i := 399) (by decide +kernel) rfl
theorem k_417 : Cond.methodLink "RecordVersionsLaw" 82 y_Mo_erase ∈ tb := x_in (i := 685) (by decide +kernel) rfl
theorem k_418 : Cond.instanceMethod y_Mo_erase ∈ tb := x_in (i := 686) (by decide +kernel) rfl
theorem k_419 : Cond.selects "RecordVersionsModel" y_Mo_erase y_Mo_erase ∈ tb := x_in (i := 687) (by decide +kernel) rfl
theorem k_420 : Cond.code y_Mo_erase b_Mo_erase 3 (some .int) ∈ tb := x_in (i := 688) (by decide +kernel) rfl
theorem k_421 : Cond.methodLink "RecordVersionsLaw" 80 y_La_erase ∈ tb := x_in (i := 451) (by decide +kernel) rfl
theorem k_422 : Cond.static y_La_erase ∈ tb := x_in (i := 452) (by decide +kernel) rfl
theorem k_423 : Cond.codeWith y_La_erase b_La_erase 5 (some .int) hh_La_erase ∈ tb := x_in (i := 453) (by decide +kernel) rfl
theorem k_424 : Cond.methodLink "RecordVersionsLaw" 86 y_Mo_commit ∈ tb := x_in (i := 689) (by decide +kernel) rfl
theorem k_425 : Cond.instanceMethod y_Mo_commit ∈ tb := x_in (i := 690) (by decide +kernel) rfl
theorem k_426 : Cond.selects "RecordVersionsModel" y_Mo_commit y_Mo_commit ∈ tb := x_in (i := 691) (by decide +kernel) rfl
theorem k_427 : Cond.code y_Mo_commit b_Mo_commit 4 (some .int) ∈ tb := x_in (i := 692) (by decide +kernel) rfl
theorem k_428 : Cond.methodLink "RecordVersionsLaw" 83 y_La_commit ∈ tb := x_in (i := 458) (by decide +kernel) rfl
theorem k_429 : Cond.static y_La_commit ∈ tb := x_in (i := 459) (by decide +kernel) rfl
theorem k_430 : Cond.codeWith y_La_commit b_La_commit 4 (some .int) hh_La_commit ∈ tb := x_in (i := 460) (by decide +kernel) rfl
theorem k_431 : Cond.methodLink "RecordVersionsLaw" 89 y_Mo_rollback ∈ tb := x_in (i := 693) (by decide +kernel) rfl
theorem k_432 : Cond.instanceMethod y_Mo_rollback ∈ tb := x_in (i := 694) (by decide +kernel) rfl
theorem k_433 : Cond.selects "RecordVersionsModel" y_Mo_rollback y_Mo_rollback ∈ tb := x_in (i := 695) (by decide +kernel) rfl
theorem k_434 : Cond.code y_Mo_rollback b_Mo_rollback 2 (some .int) ∈ tb := x_in (i := 696) (by decide +kernel) rfl
theorem k_435 : Cond.methodLink "RecordVersionsLaw" 87 y_La_rollback ∈ tb := x_in (i := 465) (by decide +kernel) rfl
theorem k_436 : Cond.static y_La_rollback ∈ tb := x_in (i := 466) (by decide +kernel) rfl
theorem k_437 : Cond.codeWith y_La_rollback b_La_rollback 4 (some .int) hh_La_rollback ∈ tb := x_in (i := 467) (by decide +kernel) rfl
theorem k_438 : Cond.methodLink "RecordVersionsLaw" 93 y_Mo_sweep ∈ tb := x_in (i := 697) (by decide +kernel) rfl
theorem k_439 : Cond.instanceMethod y_Mo_sweep ∈ tb := x_in (i := 698) (by decide +kernel) rfl
theorem k_440 : Cond.selects "RecordVersionsModel" y_Mo_sweep y_Mo_sweep ∈ tb := x_in (i := 699) (by decide +kernel) rfl
theorem k_441 : Cond.code y_Mo_sweep b_Mo_sweep 3 (some .int) ∈ tb := x_in (i := 700) (by decide +kernel) rfl
theorem k_442 : Cond.methodLink "RecordVersionsLaw" 90 y_Rv_sweep ∈ tb := x_in (i := 136) (by decide +kernel) rfl
theorem k_443 : Cond.instanceMethod y_Rv_sweep ∈ tb := x_in (i := 137) (by decide +kernel) rfl
theorem k_444 : Cond.selects "RecordVersions" y_Rv_sweep y_Rv_sweep ∈ tb := x_in (i := 138) (by decide +kernel) rfl
theorem k_445 : Cond.code y_Rv_sweep b_Rv_sweep 4 (some .int) ∈ tb := x_in (i := 139) (by decide +kernel) rfl
theorem k_446 : Cond.methodLink "RecordVersionsLaw" 97 y_Mo_flush ∈ tb := x_in (i := 709) (by decide +kernel) rfl
theorem k_447 : Cond.instanceMethod y_Mo_flush ∈ tb := x_in (i := 710) (by decide +kernel) rfl
theorem k_448 : Cond.selects "RecordVersionsModel" y_Mo_flush y_Mo_flush ∈ tb := x_in (i := 711) (by decide +kernel) rfl
theorem k_449 : Cond.code y_Mo_flush b_Mo_flush 3 (some .int) ∈ tb := x_in (i := 712) (by decide +kernel) rfl
theorem k_450 : Cond.methodLink "RecordVersionsLaw" 94 y_Rv_flush ∈ tb := x_in (i := 239) (by decide +kernel) rfl
theorem k_451 : Cond.instanceMethod y_Rv_flush ∈ tb := x_in (i := 240) (by decide +kernel) rfl
theorem k_452 : Cond.selects "RecordVersions" y_Rv_flush y_Rv_flush ∈ tb := x_in (i := 241) (by decide +kernel) rfl
theorem k_453 : Cond.code y_Rv_flush b_Rv_flush 2 (some .int) ∈ tb := x_in (i := 242) (by decide +kernel) rfl
theorem k_454 : Cond.methodLink "RecordVersionsLaw" 100 y_Mo_fail ∈ tb := x_in (i := 713) (by decide +kernel) rfl
theorem k_455 : Cond.instanceMethod y_Mo_fail ∈ tb := x_in (i := 714) (by decide +kernel) rfl
theorem k_456 : Cond.selects "RecordVersionsModel" y_Mo_fail y_Mo_fail ∈ tb := x_in (i := 715) (by decide +kernel) rfl
theorem k_457 : Cond.code y_Mo_fail b_Mo_fail 3 (some .int) ∈ tb := x_in (i := 716) (by decide +kernel) rfl
theorem k_458 : Cond.methodLink "RecordVersionsLaw" 98 y_La_fail ∈ tb := x_in (i := 472) (by decide +kernel) rfl
theorem k_459 : Cond.static y_La_fail ∈ tb := x_in (i := 473) (by decide +kernel) rfl
theorem k_460 : Cond.codeWith y_La_fail b_La_fail 4 (some .int) hh_La_fail ∈ tb := x_in (i := 474) (by decide +kernel) rfl
theorem k_461 : Cond.methodLink "RecordVersionsLaw" 104 y_Mo_crash ∈ tb := x_in (i := 717) (by decide +kernel) rfl
theorem k_462 : Cond.instanceMethod y_Mo_crash ∈ tb := x_in (i := 718) (by decide +kernel) rfl
theorem k_463 : Cond.selects "RecordVersionsModel" y_Mo_crash y_Mo_crash ∈ tb := x_in (i := 719) (by decide +kernel) rfl
theorem k_464 : Cond.code y_Mo_crash b_Mo_crash 2 (some .int) ∈ tb := x_in (i := 720) (by decide +kernel) rfl
theorem k_465 : Cond.methodLink "RecordVersionsLaw" 101 y_Rv_crash ∈ tb := x_in (i := 247) (by decide +kernel) rfl
theorem k_466 : Cond.instanceMethod y_Rv_crash ∈ tb := x_in (i := 248) (by decide +kernel) rfl
theorem k_467 : Cond.selects "RecordVersions" y_Rv_crash y_Rv_crash ∈ tb := x_in (i := 249) (by decide +kernel) rfl
theorem k_468 : Cond.code y_Rv_crash b_Rv_crash 2 (some .int) ∈ tb := x_in (i := 250) (by decide +kernel) rfl
theorem k_469 : Cond.methodLink "RecordVersionsLaw" 107 y_Mo_image ∈ tb := x_in (i := 721) (by decide +kernel) rfl
theorem k_470 : Cond.instanceMethod y_Mo_image ∈ tb := x_in (i := 722) (by decide +kernel) rfl
theorem k_471 : Cond.selects "RecordVersionsModel" y_Mo_image y_Mo_image ∈ tb := x_in (i := 723) (by decide +kernel) rfl
theorem k_472 : Cond.code y_Mo_image b_Mo_image 4 (some .int) ∈ tb := x_in (i := 724) (by decide +kernel) rfl
theorem k_473 : Cond.methodLink "RecordVersionsLaw" 105 y_La_image ∈ tb := x_in (i := 479) (by decide +kernel) rfl
theorem k_474 : Cond.static y_La_image ∈ tb := x_in (i := 480) (by decide +kernel) rfl
theorem k_475 : Cond.codeWith y_La_image b_La_image 4 (some .int) hh_La_image ∈ tb := x_in (i := 481) (by decide +kernel) rfl
theorem k_476 : Cond.methodLink "RecordVersionsLaw" 110 y_Mo_state ∈ tb := x_in (i := 725) (by decide +kernel) rfl
theorem k_477 : Cond.instanceMethod y_Mo_state ∈ tb := x_in (i := 726) (by decide +kernel) rfl
theorem k_478 : Cond.selects "RecordVersionsModel" y_Mo_state y_Mo_state ∈ tb := x_in (i := 727) (by decide +kernel) rfl
theorem k_479 : Cond.code y_Mo_state b_Mo_state 2 (some .int) ∈ tb := x_in (i := 728) (by decide +kernel) rfl
theorem k_480 : Cond.methodLink "RecordVersionsLaw" 108 y_La_state ∈ tb := x_in (i := 486) (by decide +kernel) rfl
theorem k_481 : Cond.static y_La_state ∈ tb := x_in (i := 487) (by decide +kernel) rfl
theorem k_482 : Cond.codeWith y_La_state b_La_state 4 (some .int) hh_La_state ∈ tb := x_in (i := 488) (by decide +kernel) rfl
theorem k_483 : Cond.methodLink "RecordVersionsLaw" 113 y_Mo_version ∈ tb := x_in (i := 729) (by decide +kernel) rfl
theorem k_484 : Cond.instanceMethod y_Mo_version ∈ tb := x_in (i := 730) (by decide +kernel) rfl
theorem k_485 : Cond.selects "RecordVersionsModel" y_Mo_version y_Mo_version ∈ tb := x_in (i := 731) (by decide +kernel) rfl
theorem k_486 : Cond.code y_Mo_version b_Mo_version 6 (some .int) ∈ tb := x_in (i := 732) (by decide +kernel) rfl
theorem k_487 : Cond.methodLink "RecordVersionsLaw" 111 y_La_version ∈ tb := x_in (i := 493) (by decide +kernel) rfl
theorem k_488 : Cond.static y_La_version ∈ tb := x_in (i := 494) (by decide +kernel) rfl
theorem k_489 : Cond.codeWith y_La_version b_La_version 6 (some .int) hh_La_version ∈ tb := x_in (i := 495) (by decide +kernel) rfl
theorem k_490 : Cond.methodLink "RecordVersionsLaw" 116 y_Mo_page ∈ tb := x_in (i := 733) (by decide +kernel) rfl
theorem k_491 : Cond.instanceMethod y_Mo_page ∈ tb := x_in (i := 734) (by decide +kernel) rfl
theorem k_492 : Cond.selects "RecordVersionsModel" y_Mo_page y_Mo_page ∈ tb := x_in (i := 735) (by decide +kernel) rfl
theorem k_493 : Cond.code y_Mo_page b_Mo_page 2 (some .int) ∈ tb := x_in (i := 736) (by decide +kernel) rfl
theorem k_494 : Cond.methodLink "RecordVersionsLaw" 114 y_La_page ∈ tb := x_in (i := 501) (by decide +kernel) rfl
theorem k_495 : Cond.static y_La_page ∈ tb := x_in (i := 502) (by decide +kernel) rfl
theorem k_496 : Cond.codeWith y_La_page b_La_page 4 (some .int) hh_La_page ∈ tb := x_in (i := 503) (by decide +kernel) rfl
theorem k_497 : Cond.methodLink "RecordVersionsLaw" 119 y_Mo_count ∈ tb := x_in (i := 737) (by decide +kernel) rfl
theorem k_498 : Cond.instanceMethod y_Mo_count ∈ tb := x_in (i := 738) (by decide +kernel) rfl
theorem k_499 : Cond.selects "RecordVersionsModel" y_Mo_count y_Mo_count ∈ tb := x_in (i := 739) (by decide +kernel) rfl
theorem k_500 : Cond.code y_Mo_count b_Mo_count 4 (some .int) ∈ tb := x_in (i := 740) (by decide +kernel) rfl
theorem k_501 : Cond.methodLink "RecordVersionsLaw" 117 y_La_count ∈ tb := x_in (i := 508) (by decide +kernel) rfl
theorem k_502 : Cond.static y_La_count ∈ tb := x_in (i := 509) (by decide +kernel) rfl
theorem k_503 : Cond.codeWith y_La_count b_La_count 4 (some .int) hh_La_count ∈ tb := x_in (i := 510) (by decide +kernel) rfl
theorem k_504 : Cond.code y_Rv_init b_Rv_init 1 none ∈ tb := x_in (i := 55) (by decide +kernel) rfl
theorem k_505 : Cond.code y_Mo_init b_Mo_init 2 none ∈ tb := x_in (i := 529) (by decide +kernel) rfl
theorem at_Rv_43 {A : Nat → Prop} {args : Array Value} {s : State} (hts : ∀ w ∈ tb, w.before args s = true) (hZ : xZ A s s.heap) : ∀ a ∈ Bundle.ownAtoms0 "RecordVersions" 43 "java/lang/IllegalStateException" ["java/lang/RuntimeException", "java/lang/Exception"], a.before args s = true := x_atoms hts hZ (by decide +kernel)
theorem at_Rv_76 {A : Nat → Prop} {args : Array Value} {s : State} (hts : ∀ w ∈ tb, w.before args s = true) (hZ : xZ A s s.heap) : ∀ a ∈ Bundle.ownAtoms0 "RecordVersions" 76 "java/lang/IllegalArgumentException" ["java/lang/RuntimeException", "java/lang/Exception"], a.before args s = true := x_atoms hts hZ (by decide +kernel)
theorem at_Rv_114 {A : Nat → Prop} {args : Array Value} {s : State} (hts : ∀ w ∈ tb, w.before args s = true) (hZ : xZ A s s.heap) : ∀ a ∈ Bundle.ownAtoms0 "RecordVersions" 114 "java/util/NoSuchElementException" ["java/lang/RuntimeException", "java/lang/Exception"], a.before args s = true := x_atoms hts hZ (by decide +kernel)
theorem at_Rv_158 {A : Nat → Prop} {args : Array Value} {s : State} (hts : ∀ w ∈ tb, w.before args s = true) (hZ : xZ A s s.heap) : ∀ a ∈ Bundle.ownAtoms0 "RecordVersions" 158 "java/lang/IndexOutOfBoundsException" ["java/lang/RuntimeException", "java/lang/Exception"], a.before args s = true := x_atoms hts hZ (by decide +kernel)
theorem at_Rv_148 {A : Nat → Prop} {args : Array Value} {s : State} (hts : ∀ w ∈ tb, w.before args s = true) (hZ : xZ A s s.heap) : ∀ a ∈ Bundle.ownAtoms0 "RecordVersions" 148 "java/lang/UnsupportedOperationException" ["java/lang/RuntimeException", "java/lang/Exception"], a.before args s = true := x_atoms hts hZ (by decide +kernel)
