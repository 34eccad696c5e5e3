/-! what the tables say, numbers of classes -/
def tbG : List Cond := lw_tbl.filter goodWord
theorem mg {w : Cond} (i : Nat) (h : lw_tbl[i]? = some w) (hg : goodWord w = true) : w ∈ tbG := List.mem_filter.mpr ⟨List.mem_of_getElem? h, hg⟩
abbrev MD : Type := MethodName × ByteArray × Nat × Option FieldType × (Nat × Nat)
def cN (ci : Nat) : Nat := match ci with | 0 => 2 | 1 => 7 | 2 => 7 | 3 => 8 | 4 => 7 | 5 => 2 | _ => 7
def cR (ci : Nat) : String := match ci with | 0 => RX0 | 1 => RX1 | 2 => RX2 | 3 => RX3 | 4 => RX4 | 5 => RX5 | _ => RX6
def cU (ci : Nat) : u_T := match ci with | 0 => TX0 | 1 => TX1 | 2 => TX2 | 3 => TX3 | 4 => TX4 | 5 => TX5 | _ => TX6
def nsL : List (String × Nat × MethodName × String) := [(RX2, 11, yX1_init, "PocketCards"), (RX2, 20, yX5_init, "PocketCards"), (RX2, 27, yX3_init, "PocketCards"), (RX6, 38, yX4_init, "PocketCards"), (RX1, 52, yX6_firstBits, "PocketCards"), (RX2, 142, yX6_firstOne, "PocketCards"), (RX2, 157, yX6_isBeginning, "PocketCards"), (RX2, 164, yX6_firstBits, "PocketCards"), (RX2, 167, yX6_isFrameSize, "PocketCards"), (RX1, 39, yX6_firstOne, "PocketCards")]
def MO (md : MD) (n : Nat) : Prop := Cond.initialized md.1.cls ∈ tbG ∧ Cond.code md.1 md.2.1 md.2.2.1 md.2.2.2.1 ∈ tbG ∧ (md.1.cls ≠ "java/lang/invoke/MethodHandle" ∧ md.1.cls ≠ "java/lang/invoke/VarHandle" ∧ (parseMethodDescriptor md.1.desc).map (fun d => d.parameters.length) = some n) ∧ md.2.2.1 ≤ 20 ∧ plainName md.1.cls = true
