/-! NAMES: the classes that objects are of, in the order of cl; types of arrays; texts of exceptions. Written by wip/p32/head.py out of the printed names. -/
def RX0 : String := "Tenuredale$FullCollector"
def RX1 : String := "Tenuredale$Marking"
def RX2 : String := "Tenuredale$MinorCollector"
def RX3 : String := "Tenuredale$Places"
def RX4 : String := "Tenuredale$Roots"
def RX5 : String := "Tenuredale$Row"
def RX6 : String := "Tenuredale$Tally"
def RX7 : String := "Tenuredale$Thing"
def RX8 : String := "Tenuredale$Trace"
def RX9 : String := "Tenuredale"
def RJx145de : String := "java/io/Serializable"
def RJ9 : String := "java/lang/Math"
def RJ0 : String := "java/lang/String"
def RL : String := "TenuredaleLaw"
def TX0 : u_T := fun k => match k with
  | 0 => ("Tenuredale$FullCollector", "all", "LTenuredale$Row;", true)
  | 1 => ("Tenuredale$FullCollector", "roots", "LTenuredale$Roots;", true)
  | 2 => ("Tenuredale$FullCollector", "places", "LTenuredale$Places;", true)
  | 3 => ("Tenuredale$FullCollector", "tally", "LTenuredale$Tally;", true)
  | 4 => ("Tenuredale$FullCollector", "marking", "LTenuredale$Marking;", true)
  | _ => ("Tenuredale$FullCollector", "trace", "LTenuredale$Trace;", true)
def tyX0 : Nat → FieldType := fun k => match k with
  | 0 => .object "Tenuredale$Row"
  | 1 => .object "Tenuredale$Roots"
  | 2 => .object "Tenuredale$Places"
  | 3 => .object "Tenuredale$Tally"
  | 4 => .object "Tenuredale$Marking"
  | _ => .object "Tenuredale$Trace"
def TX1 : u_T := fun k => match k with
  | 0 => ("Tenuredale$Marking", "all", "LTenuredale$Row;", true)
  | 1 => ("Tenuredale$Marking", "roots", "LTenuredale$Roots;", true)
  | _ => ("Tenuredale$Marking", "isOn", "Z", false)
def tyX1 : Nat → FieldType := fun k => match k with
  | 0 => .object "Tenuredale$Row"
  | 1 => .object "Tenuredale$Roots"
  | _ => .boolean
def TX2 : u_T := fun k => match k with
  | 0 => ("Tenuredale$MinorCollector", "tenureAge", "I", false)
  | 1 => ("Tenuredale$MinorCollector", "all", "LTenuredale$Row;", true)
  | 2 => ("Tenuredale$MinorCollector", "roots", "LTenuredale$Roots;", true)
  | 3 => ("Tenuredale$MinorCollector", "places", "LTenuredale$Places;", true)
  | 4 => ("Tenuredale$MinorCollector", "tally", "LTenuredale$Tally;", true)
  | 5 => ("Tenuredale$MinorCollector", "sources", "LTenuredale$Row;", true)
  | 6 => ("Tenuredale$MinorCollector", "followed", "I", false)
  | 7 => ("Tenuredale$MinorCollector", "otherHalf", "I", false)
  | _ => ("Tenuredale$MinorCollector", "otherTop", "I", false)
def tyX2 : Nat → FieldType := fun k => match k with
  | 0 => .int
  | 1 => .object "Tenuredale$Row"
  | 2 => .object "Tenuredale$Roots"
  | 3 => .object "Tenuredale$Places"
  | 4 => .object "Tenuredale$Tally"
  | 5 => .object "Tenuredale$Row"
  | 6 => .int
  | 7 => .int
  | _ => .int
def TX3 : u_T := fun k => match k with
  | 0 => ("Tenuredale$Places", "young", "LTenuredale$Row;", true)
  | 1 => ("Tenuredale$Places", "old", "LTenuredale$Row;", true)
  | 2 => ("Tenuredale$Places", "large", "LTenuredale$Row;", true)
  | 3 => ("Tenuredale$Places", "half", "I", false)
  | 4 => ("Tenuredale$Places", "youngTop", "I", false)
  | 5 => ("Tenuredale$Places", "oldTop", "I", false)
  | 6 => ("Tenuredale$Places", "oldWords", "I", false)
  | _ => ("Tenuredale$Places", "dirty", "[Z", true)
def tyX3 : Nat → FieldType := fun k => match k with
  | 0 => .object "Tenuredale$Row"
  | 1 => .object "Tenuredale$Row"
  | 2 => .object "Tenuredale$Row"
  | 3 => .int
  | 4 => .int
  | 5 => .int
  | 6 => .int
  | _ => .array .boolean
def TX4 : u_T := fun k => match k with
  | 0 => ("Tenuredale$Roots", "queue", "LTenuredale$Row;", true)
  | 1 => ("Tenuredale$Roots", "slots", "[LTenuredale$Thing;", true)
  | 2 => ("Tenuredale$Roots", "globals", "[LTenuredale$Thing;", true)
  | _ => ("Tenuredale$Roots", "frames", "I", false)
def tyX4 : Nat → FieldType := fun k => match k with
  | 0 => .object "Tenuredale$Row"
  | 1 => .array (.object "Tenuredale$Thing")
  | 2 => .array (.object "Tenuredale$Thing")
  | _ => .int
def TX5 : u_T := fun k => match k with
  | 0 => ("Tenuredale$Row", "things", "[LTenuredale$Thing;", true)
  | _ => ("Tenuredale$Row", "size", "I", false)
def tyX5 : Nat → FieldType := fun k => match k with
  | 0 => .array (.object "Tenuredale$Thing")
  | _ => .int
def TX6 : u_T := fun k => match k with
  | 0 => ("Tenuredale$Tally", "minors", "I", false)
  | 1 => ("Tenuredale$Tally", "fulls", "I", false)
  | 2 => ("Tenuredale$Tally", "latestTouched", "I", false)
  | _ => ("Tenuredale$Tally", "mostTouched", "I", false)
def tyX6 : Nat → FieldType := fun k => match k with
  | 0 => .int
  | 1 => .int
  | 2 => .int
  | _ => .int
def TX7 : u_T := fun k => match k with
  | 0 => ("Tenuredale$Thing", "number", "I", true)
  | 1 => ("Tenuredale$Thing", "fields", "[LTenuredale$Thing;", true)
  | 2 => ("Tenuredale$Thing", "kind", "I", false)
  | 3 => ("Tenuredale$Thing", "place", "I", false)
  | 4 => ("Tenuredale$Thing", "address", "I", false)
  | 5 => ("Tenuredale$Thing", "size", "I", false)
  | 6 => ("Tenuredale$Thing", "sizeBehindMove", "I", false)
  | 7 => ("Tenuredale$Thing", "age", "I", false)
  | 8 => ("Tenuredale$Thing", "hash", "I", false)
  | 9 => ("Tenuredale$Thing", "isPinned", "Z", false)
  | 10 => ("Tenuredale$Thing", "colour", "I", false)
  | 11 => ("Tenuredale$Thing", "isMoved", "Z", false)
  | 12 => ("Tenuredale$Thing", "isMarked", "Z", false)
  | _ => ("Tenuredale$Thing", "isCut", "Z", false)
def tyX7 : Nat → FieldType := fun k => match k with
  | 0 => .int
  | 1 => .array (.object "Tenuredale$Thing")
  | 2 => .int
  | 3 => .int
  | 4 => .int
  | 5 => .int
  | 6 => .int
  | 7 => .int
  | 8 => .int
  | 9 => .boolean
  | 10 => .int
  | 11 => .boolean
  | 12 => .boolean
  | _ => .boolean
def TX8 : u_T := fun k => match k with
  | 0 => ("Tenuredale$Trace", "all", "LTenuredale$Row;", true)
  | 1 => ("Tenuredale$Trace", "roots", "LTenuredale$Roots;", true)
  | 2 => ("Tenuredale$Trace", "marked", "LTenuredale$Row;", true)
  | 3 => ("Tenuredale$Trace", "scanned", "I", false)
  | 4 => ("Tenuredale$Trace", "isSoftKept", "Z", false)
  | _ => ("Tenuredale$Trace", "hollow", "LTenuredale$Thing;", false)
def tyX8 : Nat → FieldType := fun k => match k with
  | 0 => .object "Tenuredale$Row"
  | 1 => .object "Tenuredale$Roots"
  | 2 => .object "Tenuredale$Row"
  | 3 => .int
  | 4 => .boolean
  | _ => .object "Tenuredale$Thing"
def TX9 : u_T := fun k => match k with
  | 0 => ("Tenuredale", "all", "LTenuredale$Row;", true)
  | 1 => ("Tenuredale", "roots", "LTenuredale$Roots;", true)
  | 2 => ("Tenuredale", "places", "LTenuredale$Places;", true)
  | 3 => ("Tenuredale", "tally", "LTenuredale$Tally;", true)
  | 4 => ("Tenuredale", "marking", "LTenuredale$Marking;", true)
  | 5 => ("Tenuredale", "trace", "LTenuredale$Trace;", true)
  | 6 => ("Tenuredale", "minorCollector", "LTenuredale$MinorCollector;", true)
  | 7 => ("Tenuredale", "fullCollector", "LTenuredale$FullCollector;", true)
  | _ => ("Tenuredale", "hashesGiven", "I", false)
def tyX9 : Nat → FieldType := fun k => match k with
  | 0 => .object "Tenuredale$Row"
  | 1 => .object "Tenuredale$Roots"
  | 2 => .object "Tenuredale$Places"
  | 3 => .object "Tenuredale$Tally"
  | 4 => .object "Tenuredale$Marking"
  | 5 => .object "Tenuredale$Trace"
  | 6 => .object "Tenuredale$MinorCollector"
  | 7 => .object "Tenuredale$FullCollector"
  | _ => .int
abbrev cl : List vw_C := [(RX0, TX0, 6), (RX1, TX1, 3), (RX2, TX2, 9), (RX3, TX3, 8), (RX4, TX4, 4), (RX5, TX5, 2), (RX6, TX6, 4), (RX7, TX7, 14), (RX8, TX8, 6), (RX9, TX9, 9)]
/-- the classes of arrays -/
abbrev tys (K : Nat → ClassId) : List (ClassId × FieldType) := [(K 0, .object "Tenuredale$Thing"), (K 1, .boolean), (K 2, .int)]
/-- texts: the class whose pool has it, its place there, the text -/
def lw_strs : List (String × Nat × String) := [("Tenuredale", 77, "there are 8 FRAMES"), ("Tenuredale", 85, "it is the only FRAME"), ("Tenuredale", 387, "no such SLOT"), ("Tenuredale", 100, "no such KIND, or not with so many FIELDS"), ("Tenuredale", 106, "200 OBJECTS were made"), ("Tenuredale", 383, "the SLOT is NONE"), ("Tenuredale", 392, "the OBJECT has no such FIELD"), ("Tenuredale", 172, "no such GLOBAL"), ("Tenuredale", 197, "4 others are PINNED"), ("Tenuredale", 381, "there was no such OBJECT"), ("Tenuredale", 263, "what is not 0 to 7"), ("Tenuredale", 316, "what is not 0 to 15"), ("Tenuredale", 327, "no such place in the QUEUE"), ("Tenuredale", 349, "fields is not 0 to 20"), ("Tenuredale", 318, "no such CARD")]
