/-! names and fields, in the order of their slots -/
def Rc0 : String := "AskedNames"
def Tc0 : u_T := fun k => match k with
  | 0 => ("AskedNames", "told", "LAskedNames$Told;", true)
  | 1 => ("AskedNames", "images", "[LAskedNames$Told;", true)
  | 2 => ("AskedNames", "taken", "[Z", true)
  | 3 => ("AskedNames", "reader", "LAskedNames$Reader;", true)
  | 4 => ("AskedNames", "course", "LAskedNames$Course;", true)
  | 5 => ("AskedNames", "path", "[I", true)
  | 6 => ("AskedNames", "fitted", "[I", true)
  | _ => ("AskedNames", "gotBy", "[I", true)
def yc0 : Nat → FieldType := fun k => match k with
  | 0 => .object "AskedNames$Told"
  | 1 => .array (.object "AskedNames$Told")
  | 2 => .array (.boolean)
  | 3 => .object "AskedNames$Reader"
  | 4 => .object "AskedNames$Course"
  | 5 => .array (.int)
  | 6 => .array (.int)
  | _ => .array (.int)
theorem nm0 : ∀ a, a < 8 → ∀ b, b < 8 → a ≠ b → (Tc0 a).2.1 ≠ (Tc0 b).2.1 := by decide +kernel
theorem ty0 : ∀ k, k < 8 → parseFieldDescriptor (Tc0 k).2.2.1 = some (yc0 k) := by decide +kernel
def Rc1 : String := "AskedNames$Told"
def Tc1 : u_T := fun k => match k with
  | 0 => ("AskedNames$Told", "tape", "[B", true)
  | 1 => ("AskedNames$Told", "length", "I", false)
  | 2 => ("AskedNames$Told", "fault", "I", false)
  | 3 => ("AskedNames$Told", "place", "I", false)
  | 4 => ("AskedNames$Told", "counts", "[I", true)
  | 5 => ("AskedNames$Told", "nets", "[LAskedNames$Net;", true)
  | 6 => ("AskedNames$Told", "runs", "[LAskedNames$Run;", true)
  | _ => ("AskedNames$Told", "logs", "[LAskedNames$Log;", true)
def yc1 : Nat → FieldType := fun k => match k with
  | 0 => .array (.byte)
  | 1 => .int
  | 2 => .int
  | 3 => .int
  | 4 => .array (.int)
  | 5 => .array (.object "AskedNames$Net")
  | 6 => .array (.object "AskedNames$Run")
  | _ => .array (.object "AskedNames$Log")
theorem nm1 : ∀ a, a < 8 → ∀ b, b < 8 → a ≠ b → (Tc1 a).2.1 ≠ (Tc1 b).2.1 := by decide +kernel
theorem ty1 : ∀ k, k < 8 → parseFieldDescriptor (Tc1 k).2.2.1 = some (yc1 k) := by decide +kernel
def Rc2 : String := "AskedNames$Net"
def Tc2 : u_T := fun k => match k with
  | 0 => ("AskedNames$Net", "nodes", "I", false)
  | 1 => ("AskedNames$Net", "life", "I", false)
  | 2 => ("AskedNames$Net", "links", "I", false)
  | 3 => ("AskedNames$Net", "routes", "I", false)
  | 4 => ("AskedNames$Net", "serves", "I", false)
  | 5 => ("AskedNames$Net", "room", "[I", true)
  | 6 => ("AskedNames$Net", "linkA", "[I", true)
  | 7 => ("AskedNames$Net", "linkB", "[I", true)
  | 8 => ("AskedNames$Net", "delay", "[I", true)
  | 9 => ("AskedNames$Net", "linkOf", "[I", true)
  | 10 => ("AskedNames$Net", "routeNode", "[I", true)
  | 11 => ("AskedNames$Net", "routeWord", "[I", true)
  | 12 => ("AskedNames$Net", "routeTo", "[I", true)
  | 13 => ("AskedNames$Net", "routeCost", "[I", true)
  | 14 => ("AskedNames$Net", "serveNode", "[I", true)
  | 15 => ("AskedNames$Net", "serveWord", "[I", true)
  | _ => ("AskedNames$Net", "serveFresh", "[I", true)
def yc2 : Nat → FieldType := fun k => match k with
  | 0 => .int
  | 1 => .int
  | 2 => .int
  | 3 => .int
  | 4 => .int
  | 5 => .array (.int)
  | 6 => .array (.int)
  | 7 => .array (.int)
  | 8 => .array (.int)
  | 9 => .array (.int)
  | 10 => .array (.int)
  | 11 => .array (.int)
  | 12 => .array (.int)
  | 13 => .array (.int)
  | 14 => .array (.int)
  | 15 => .array (.int)
  | _ => .array (.int)
theorem nm2 : ∀ a, a < 17 → ∀ b, b < 17 → a ≠ b → (Tc2 a).2.1 ≠ (Tc2 b).2.1 := by decide +kernel
theorem ty2 : ∀ k, k < 17 → parseFieldDescriptor (Tc2 k).2.2.1 = some (yc2 k) := by decide +kernel
def Rc3 : String := "AskedNames$Run"
def Tc3 : u_T := fun k => match k with
  | 0 => ("AskedNames$Run", "deeds", "I", false)
  | 1 => ("AskedNames$Run", "kind", "[I", true)
  | 2 => ("AskedNames$Run", "first", "[I", true)
  | _ => ("AskedNames$Run", "second", "[I", true)
def yc3 : Nat → FieldType := fun k => match k with
  | 0 => .int
  | 1 => .array (.int)
  | 2 => .array (.int)
  | _ => .array (.int)
theorem nm3 : ∀ a, a < 4 → ∀ b, b < 4 → a ≠ b → (Tc3 a).2.1 ≠ (Tc3 b).2.1 := by decide +kernel
theorem ty3 : ∀ k, k < 4 → parseFieldDescriptor (Tc3 k).2.2.1 = some (yc3 k) := by decide +kernel
def Rc4 : String := "AskedNames$Log"
def Tc4 : u_T := fun k => match k with
  | 0 => ("AskedNames$Log", "facts", "I", false)
  | 1 => ("AskedNames$Log", "of", "[I", true)
  | _ => ("AskedNames$Log", "minute", "[I", true)
def yc4 : Nat → FieldType := fun k => match k with
  | 0 => .int
  | 1 => .array (.int)
  | _ => .array (.int)
theorem nm4 : ∀ a, a < 3 → ∀ b, b < 3 → a ≠ b → (Tc4 a).2.1 ≠ (Tc4 b).2.1 := by decide +kernel
theorem ty4 : ∀ k, k < 3 → parseFieldDescriptor (Tc4 k).2.2.1 = some (yc4 k) := by decide +kernel
def Rc5 : String := "AskedNames$Reader"
def Tc5 : u_T := fun k => match k with
  | 0 => ("AskedNames$Reader", "net", "LAskedNames$Net;", true)
  | 1 => ("AskedNames$Reader", "run", "LAskedNames$Run;", true)
  | 2 => ("AskedNames$Reader", "log", "LAskedNames$Log;", true)
  | 3 => ("AskedNames$Reader", "part", "[I", true)
  | 4 => ("AskedNames$Reader", "bytes", "[B", false)
  | 5 => ("AskedNames$Reader", "length", "I", false)
  | 6 => ("AskedNames$Reader", "sort", "I", false)
  | 7 => ("AskedNames$Reader", "at", "I", false)
  | 8 => ("AskedNames$Reader", "token", "I", false)
  | 9 => ("AskedNames$Reader", "start", "I", false)
  | 10 => ("AskedNames$Reader", "value", "I", false)
  | 11 => ("AskedNames$Reader", "highestNode", "I", false)
  | 12 => ("AskedNames$Reader", "fault", "I", false)
  | _ => ("AskedNames$Reader", "place", "I", false)
def yc5 : Nat → FieldType := fun k => match k with
  | 0 => .object "AskedNames$Net"
  | 1 => .object "AskedNames$Run"
  | 2 => .object "AskedNames$Log"
  | 3 => .array (.int)
  | 4 => .array (.byte)
  | 5 => .int
  | 6 => .int
  | 7 => .int
  | 8 => .int
  | 9 => .int
  | 10 => .int
  | 11 => .int
  | 12 => .int
  | _ => .int
theorem nm5 : ∀ a, a < 14 → ∀ b, b < 14 → a ≠ b → (Tc5 a).2.1 ≠ (Tc5 b).2.1 := by decide +kernel
theorem ty5 : ∀ k, k < 14 → parseFieldDescriptor (Tc5 k).2.2.1 = some (yc5 k) := by decide +kernel
def Rc6 : String := "AskedNames$Entry"
def Tc6 : u_T := fun k => match k with
  | 0 => ("AskedNames$Entry", "node", "I", false)
  | 1 => ("AskedNames$Entry", "name", "I", false)
  | 2 => ("AskedNames$Entry", "wish", "I", false)
  | 3 => ("AskedNames$Entry", "inNodes", "I", false)
  | 4 => ("AskedNames$Entry", "inAsks", "J", false)
  | 5 => ("AskedNames$Entry", "nonces", "J", false)
  | 6 => ("AskedNames$Entry", "firstNonce", "I", false)
  | 7 => ("AskedNames$Entry", "out", "I", false)
  | 8 => ("AskedNames$Entry", "tried", "I", false)
  | 9 => ("AskedNames$Entry", "sent", "I", false)
  | _ => ("AskedNames$Entry", "ends", "I", false)
def yc6 : Nat → FieldType := fun k => match k with
  | 0 => .int
  | 1 => .int
  | 2 => .int
  | 3 => .int
  | 4 => .long
  | 5 => .long
  | 6 => .int
  | 7 => .int
  | 8 => .int
  | 9 => .int
  | _ => .int
theorem nm6 : ∀ a, a < 11 → ∀ b, b < 11 → a ≠ b → (Tc6 a).2.1 ≠ (Tc6 b).2.1 := by decide +kernel
theorem ty6 : ∀ k, k < 11 → parseFieldDescriptor (Tc6 k).2.2.1 = some (yc6 k) := by decide +kernel
def Rc7 : String := "AskedNames$Message"
def Tc7 : u_T := fun k => match k with
  | 0 => ("AskedNames$Message", "kind", "I", false)
  | 1 => ("AskedNames$Message", "from", "I", false)
  | 2 => ("AskedNames$Message", "to", "I", false)
  | 3 => ("AskedNames$Message", "comes", "I", false)
  | 4 => ("AskedNames$Message", "name", "I", false)
  | 5 => ("AskedNames$Message", "wish", "I", false)
  | 6 => ("AskedNames$Message", "nonce", "I", false)
  | 7 => ("AskedNames$Message", "until", "I", false)
  | 8 => ("AskedNames$Message", "server", "I", false)
  | 9 => ("AskedNames$Message", "source", "I", false)
  | 10 => ("AskedNames$Message", "fromStore", "I", false)
  | 11 => ("AskedNames$Message", "depth", "I", false)
  | 12 => ("AskedNames$Message", "root", "I", false)
  | _ => ("AskedNames$Message", "where", "I", false)
def yc7 : Nat → FieldType := fun k => match k with
  | 0 => .int
  | 1 => .int
  | 2 => .int
  | 3 => .int
  | 4 => .int
  | 5 => .int
  | 6 => .int
  | 7 => .int
  | 8 => .int
  | 9 => .int
  | 10 => .int
  | 11 => .int
  | 12 => .int
  | _ => .int
theorem nm7 : ∀ a, a < 14 → ∀ b, b < 14 → a ≠ b → (Tc7 a).2.1 ≠ (Tc7 b).2.1 := by decide +kernel
theorem ty7 : ∀ k, k < 14 → parseFieldDescriptor (Tc7 k).2.2.1 = some (yc7 k) := by decide +kernel
def Rc8 : String := "AskedNames$Store"
def Tc8 : u_T := fun k => match k with
  | 0 => ("AskedNames$Store", "size", "I", false)
  | 1 => ("AskedNames$Store", "name", "[I", true)
  | 2 => ("AskedNames$Store", "until", "[I", true)
  | _ => ("AskedNames$Store", "server", "[I", true)
def yc8 : Nat → FieldType := fun k => match k with
  | 0 => .int
  | 1 => .array (.int)
  | 2 => .array (.int)
  | _ => .array (.int)
theorem nm8 : ∀ a, a < 4 → ∀ b, b < 4 → a ≠ b → (Tc8 a).2.1 ≠ (Tc8 b).2.1 := by decide +kernel
theorem ty8 : ∀ k, k < 4 → parseFieldDescriptor (Tc8 k).2.2.1 = some (yc8 k) := by decide +kernel
def Rc9 : String := "AskedNames$Fate"
def Tc9 : u_T := fun k => match k with
  | 0 => ("AskedNames$Fate", "result", "I", false)
  | 1 => ("AskedNames$Fate", "asked", "I", false)
  | 2 => ("AskedNames$Fate", "minute", "I", false)
  | 3 => ("AskedNames$Fate", "source", "I", false)
  | 4 => ("AskedNames$Fate", "fromStore", "I", false)
  | 5 => ("AskedNames$Fate", "depth", "I", false)
  | 6 => ("AskedNames$Fate", "root", "I", false)
  | _ => ("AskedNames$Fate", "where", "I", false)
def yc9 : Nat → FieldType := fun k => match k with
  | 0 => .int
  | 1 => .int
  | 2 => .int
  | 3 => .int
  | 4 => .int
  | 5 => .int
  | 6 => .int
  | _ => .int
theorem nm9 : ∀ a, a < 8 → ∀ b, b < 8 → a ≠ b → (Tc9 a).2.1 ≠ (Tc9 b).2.1 := by decide +kernel
theorem ty9 : ∀ k, k < 8 → parseFieldDescriptor (Tc9 k).2.2.1 = some (yc9 k) := by decide +kernel
def Rc10 : String := "AskedNames$Course"
def Tc10 : u_T := fun k => match k with
  | 0 => ("AskedNames$Course", "net", "LAskedNames$Net;", false)
  | 1 => ("AskedNames$Course", "away", "I", false)
  | 2 => ("AskedNames$Course", "now", "I", false)
  | 3 => ("AskedNames$Course", "down", "I", false)
  | 4 => ("AskedNames$Course", "seed", "I", false)
  | 5 => ("AskedNames$Course", "entries", "[LAskedNames$Entry;", true)
  | 6 => ("AskedNames$Course", "entryCount", "I", false)
  | 7 => ("AskedNames$Course", "flying", "[LAskedNames$Message;", true)
  | 8 => ("AskedNames$Course", "flyingCount", "I", false)
  | 9 => ("AskedNames$Course", "came", "LAskedNames$Message;", true)
  | 10 => ("AskedNames$Course", "said", "LAskedNames$Message;", true)
  | 11 => ("AskedNames$Course", "measured", "[I", true)
  | 12 => ("AskedNames$Course", "dead", "[J", true)
  | 13 => ("AskedNames$Course", "stores", "[LAskedNames$Store;", true)
  | 14 => ("AskedNames$Course", "fates", "[LAskedNames$Fate;", true)
  | _ => ("AskedNames$Course", "tally", "[I", true)
def yc10 : Nat → FieldType := fun k => match k with
  | 0 => .object "AskedNames$Net"
  | 1 => .int
  | 2 => .int
  | 3 => .int
  | 4 => .int
  | 5 => .array (.object "AskedNames$Entry")
  | 6 => .int
  | 7 => .array (.object "AskedNames$Message")
  | 8 => .int
  | 9 => .object "AskedNames$Message"
  | 10 => .object "AskedNames$Message"
  | 11 => .array (.int)
  | 12 => .array (.long)
  | 13 => .array (.object "AskedNames$Store")
  | 14 => .array (.object "AskedNames$Fate")
  | _ => .array (.int)
theorem nm10 : ∀ a, a < 16 → ∀ b, b < 16 → a ≠ b → (Tc10 a).2.1 ≠ (Tc10 b).2.1 := by decide +kernel
theorem ty10 : ∀ k, k < 16 → parseFieldDescriptor (Tc10 k).2.2.1 = some (yc10 k) := by decide +kernel
def Rc11 : String := "AskedNamesModel"
def Tc11 : u_T := fun k => match k with
  | 0 => ("AskedNamesModel", "code", "I", false)
  | 1 => ("AskedNamesModel", "tape", "[B", true)
  | 2 => ("AskedNamesModel", "size", "[I", true)
  | 3 => ("AskedNamesModel", "fault", "[I", true)
  | 4 => ("AskedNamesModel", "faultPlace", "[I", true)
  | 5 => ("AskedNamesModel", "many", "[I", true)
  | 6 => ("AskedNamesModel", "nets", "[I", true)
  | 7 => ("AskedNamesModel", "runs", "[I", true)
  | 8 => ("AskedNamesModel", "logs", "[I", true)
  | 9 => ("AskedNamesModel", "reached", "I", false)
  | 10 => ("AskedNamesModel", "length", "I", false)
  | 11 => ("AskedNamesModel", "begins", "I", false)
  | 12 => ("AskedNamesModel", "sort", "I", false)
  | 13 => ("AskedNamesModel", "value", "I", false)
  | 14 => ("AskedNamesModel", "word", "J", false)
  | 15 => ("AskedNamesModel", "wrongAt", "I", false)
  | 16 => ("AskedNamesModel", "laterFault", "I", false)
  | 17 => ("AskedNamesModel", "laterPlace", "I", false)
  | 18 => ("AskedNamesModel", "told", "[I", true)
  | 19 => ("AskedNamesModel", "read", "[I", true)
  | 20 => ("AskedNamesModel", "farNode", "I", false)
  | 21 => ("AskedNamesModel", "good", "Z", false)
  | 22 => ("AskedNamesModel", "net", "I", false)
  | 23 => ("AskedNamesModel", "nodes", "I", false)
  | 24 => ("AskedNamesModel", "life", "I", false)
  | 25 => ("AskedNamesModel", "linkOf", "[I", true)
  | 26 => ("AskedNamesModel", "down", "I", false)
  | 27 => ("AskedNamesModel", "minute", "I", false)
  | 28 => ("AskedNamesModel", "dead", "[J", true)
  | 29 => ("AskedNamesModel", "measured", "[I", true)
  | 30 => ("AskedNamesModel", "storeMany", "[I", true)
  | 31 => ("AskedNamesModel", "storeName", "[I", true)
  | 32 => ("AskedNamesModel", "storeUntil", "[I", true)
  | 33 => ("AskedNamesModel", "storeBy", "[I", true)
  | 34 => ("AskedNamesModel", "entryMany", "[I", true)
  | 35 => ("AskedNamesModel", "entryName", "[I", true)
  | 36 => ("AskedNamesModel", "entryWish", "[I", true)
  | 37 => ("AskedNamesModel", "entryIn", "[I", true)
  | 38 => ("AskedNamesModel", "entryAsks", "[J", true)
  | 39 => ("AskedNamesModel", "entryNonces", "[J", true)
  | 40 => ("AskedNamesModel", "entryFirst", "[I", true)
  | 41 => ("AskedNamesModel", "entryOut", "[I", true)
  | 42 => ("AskedNamesModel", "entryTried", "[I", true)
  | 43 => ("AskedNamesModel", "entrySent", "[I", true)
  | 44 => ("AskedNamesModel", "entryEnds", "[I", true)
  | 45 => ("AskedNamesModel", "ways", "I", false)
  | 46 => ("AskedNamesModel", "wayKind", "[I", true)
  | 47 => ("AskedNamesModel", "wayFrom", "[I", true)
  | 48 => ("AskedNamesModel", "wayTo", "[I", true)
  | 49 => ("AskedNamesModel", "wayName", "[I", true)
  | 50 => ("AskedNamesModel", "wayWish", "[I", true)
  | 51 => ("AskedNamesModel", "wayNonce", "[I", true)
  | 52 => ("AskedNamesModel", "wayDue", "[I", true)
  | 53 => ("AskedNamesModel", "wayA", "[I", true)
  | 54 => ("AskedNamesModel", "wayB", "[I", true)
  | 55 => ("AskedNamesModel", "wayC", "[I", true)
  | 56 => ("AskedNamesModel", "wayD", "[I", true)
  | 57 => ("AskedNamesModel", "cameOf", "[I", true)
  | 58 => ("AskedNamesModel", "cameAt", "[I", true)
  | 59 => ("AskedNamesModel", "askedAt", "[I", true)
  | 60 => ("AskedNamesModel", "cameFrom", "[I", true)
  | 61 => ("AskedNamesModel", "cameStore", "[I", true)
  | 62 => ("AskedNamesModel", "cameDepth", "[I", true)
  | 63 => ("AskedNamesModel", "cameRoot", "[I", true)
  | 64 => ("AskedNamesModel", "cameWhere", "[I", true)
  | 65 => ("AskedNamesModel", "sent", "I", false)
  | 66 => ("AskedNamesModel", "hits", "I", false)
  | 67 => ("AskedNamesModel", "joined", "I", false)
  | 68 => ("AskedNamesModel", "loops", "I", false)
  | 69 => ("AskedNamesModel", "dropped", "I", false)
  | 70 => ("AskedNamesModel", "missed", "I", false)
  | 71 => ("AskedNamesModel", "a", "I", false)
  | 72 => ("AskedNamesModel", "b", "I", false)
  | 73 => ("AskedNamesModel", "c", "I", false)
  | 74 => ("AskedNamesModel", "d", "I", false)
  | 75 => ("AskedNamesModel", "run", "I", false)
  | 76 => ("AskedNamesModel", "widest", "I", false)
  | 77 => ("AskedNamesModel", "parts", "[I", true)
  | 78 => ("AskedNamesModel", "walked", "[I", true)
  | 79 => ("AskedNamesModel", "walkedMany", "I", false)
  | 80 => ("AskedNamesModel", "least", "[I", true)
  | 81 => ("AskedNamesModel", "log", "I", false)
  | 82 => ("AskedNamesModel", "found", "I", false)
  | 83 => ("AskedNamesModel", "asked", "I", false)
  | 84 => ("AskedNamesModel", "seen", "[I", true)
  | 85 => ("AskedNamesModel", "seed", "I", false)
  | _ => ("AskedNamesModel", "saved", "[Z", true)
def yc11 : Nat → FieldType := fun k => match k with
  | 0 => .int
  | 1 => .array (.byte)
  | 2 => .array (.int)
  | 3 => .array (.int)
  | 4 => .array (.int)
  | 5 => .array (.int)
  | 6 => .array (.int)
  | 7 => .array (.int)
  | 8 => .array (.int)
  | 9 => .int
  | 10 => .int
  | 11 => .int
  | 12 => .int
  | 13 => .int
  | 14 => .long
  | 15 => .int
  | 16 => .int
  | 17 => .int
  | 18 => .array (.int)
  | 19 => .array (.int)
  | 20 => .int
  | 21 => .boolean
  | 22 => .int
  | 23 => .int
  | 24 => .int
  | 25 => .array (.int)
  | 26 => .int
  | 27 => .int
  | 28 => .array (.long)
  | 29 => .array (.int)
  | 30 => .array (.int)
  | 31 => .array (.int)
  | 32 => .array (.int)
  | 33 => .array (.int)
  | 34 => .array (.int)
  | 35 => .array (.int)
  | 36 => .array (.int)
  | 37 => .array (.int)
  | 38 => .array (.long)
  | 39 => .array (.long)
  | 40 => .array (.int)
  | 41 => .array (.int)
  | 42 => .array (.int)
  | 43 => .array (.int)
  | 44 => .array (.int)
  | 45 => .int
  | 46 => .array (.int)
  | 47 => .array (.int)
  | 48 => .array (.int)
  | 49 => .array (.int)
  | 50 => .array (.int)
  | 51 => .array (.int)
  | 52 => .array (.int)
  | 53 => .array (.int)
  | 54 => .array (.int)
  | 55 => .array (.int)
  | 56 => .array (.int)
  | 57 => .array (.int)
  | 58 => .array (.int)
  | 59 => .array (.int)
  | 60 => .array (.int)
  | 61 => .array (.int)
  | 62 => .array (.int)
  | 63 => .array (.int)
  | 64 => .array (.int)
  | 65 => .int
  | 66 => .int
  | 67 => .int
  | 68 => .int
  | 69 => .int
  | 70 => .int
  | 71 => .int
  | 72 => .int
  | 73 => .int
  | 74 => .int
  | 75 => .int
  | 76 => .int
  | 77 => .array (.int)
  | 78 => .array (.int)
  | 79 => .int
  | 80 => .array (.int)
  | 81 => .int
  | 82 => .int
  | 83 => .int
  | 84 => .array (.int)
  | 85 => .int
  | _ => .array (.boolean)
theorem nm11 : ∀ a, a < 87 → ∀ b, b < 87 → a ≠ b → (Tc11 a).2.1 ≠ (Tc11 b).2.1 := by decide +kernel
theorem ty11 : ∀ k, k < 87 → parseFieldDescriptor (Tc11 k).2.2.1 = some (yc11 k) := by decide +kernel
def base_cl : List vw_C := [(Rc0, Tc0, 8), (Rc1, Tc1, 8), (Rc2, Tc2, 17), (Rc3, Tc3, 4), (Rc4, Tc4, 3), (Rc5, Tc5, 14), (Rc6, Tc6, 11), (Rc7, Tc7, 14), (Rc8, Tc8, 4), (Rc9, Tc9, 8), (Rc10, Tc10, 16), (Rc11, Tc11, 87)]
/-- each twice: finished objects, then raw ones (in a constructor) -/
def cls_l : List vw_C := base_cl ++ base_cl
def ty_l : List FieldType := [.int, .byte, .boolean, .long, .object "AskedNames$Told", .object "AskedNames$Net", .object "AskedNames$Run", .object "AskedNames$Log", .object "AskedNames$Entry", .object "AskedNames$Message", .object "AskedNames$Store", .object "AskedNames$Fate"]
def fcl : List (List Nat) := [[4, 50, 189, 190, 213, 1040, 1041, 1042], [4, 0, 0, 0, 5, 6, 33, 42], [0, 0, 0, 0, 0, 4, 5, 6, 7, 8, 9, 10, 11, 12, 13, 14, 15], [0, 4, 5, 6], [0, 4, 5], [4, 17, 21, 24, 2, 0, 0, 0, 0, 0, 0, 0, 0, 0], [0, 0, 0, 0, 1, 1, 0, 0, 0, 0, 0], [0, 0, 0, 0, 0, 0, 0, 0, 0, 0, 0, 0, 0, 0], [0, 4, 5, 6], [0, 0, 0, 0, 0, 0, 0, 0], [2, 0, 0, 0, 0, 17, 0, 18, 0, 19, 20, 21, 22, 23, 24, 25], [0, 4, 5, 6, 7, 8, 9, 10, 11, 0, 0, 0, 0, 0, 1, 0, 0, 0, 12, 13, 0, 0, 0, 0, 0, 14, 0, 0, 15, 16, 17, 18, 19, 20, 21, 22, 23, 24, 25, 26, 27, 28, 29, 30, 31, 0, 32, 33, 34, 35, 36, 37, 38, 39, 40, 41, 42, 43, 44, 45, 46, 47, 48, 49, 50, 0, 0, 0, 0, 0, 0, 0, 0, 0, 0, 0, 0, 51, 52, 0, 53, 0, 0, 0, 54, 0, 55], [2, 2, 2, 2, 2, 2, 2, 2], [2, 0, 0, 0, 2, 2, 2, 2], [0, 0, 0, 0, 0, 2, 2, 2, 2, 2, 2, 2, 2, 2, 2, 2, 2], [0, 2, 2, 2], [0, 2, 2], [2, 2, 2, 2, 2, 0, 0, 0, 0, 0, 0, 0, 0, 0], [0, 0, 0, 0, 1, 1, 0, 0, 0, 0, 0], [0, 0, 0, 0, 0, 0, 0, 0, 0, 0, 0, 0, 0, 0], [0, 2, 2, 2], [0, 0, 0, 0, 0, 0, 0, 0], [2, 0, 0, 0, 0, 2, 0, 2, 0, 2, 2, 2, 2, 2, 2, 2], [0, 2, 2, 2, 2, 2, 2, 2, 2, 0, 0, 0, 0, 0, 1, 0, 0, 0, 2, 2, 0, 0, 0, 0, 0, 2, 0, 0, 2, 2, 2, 2, 2, 2, 2, 2, 2, 2, 2, 2, 2, 2, 2, 2, 2, 0, 2, 2, 2, 2, 2, 2, 2, 2, 2, 2, 2, 2, 2, 2, 2, 2, 2, 2, 2, 0, 0, 0, 0, 0, 0, 0, 0, 0, 0, 0, 0, 2, 2, 0, 2, 0, 0, 0, 2, 0, 2]]
def fc (ci k : Nat) : Nat := (fcl.getD ci []).getD k 2
abbrev Kd : Type := Nat ⊕ (Nat × Nat)
def skl : List (List (Option Kd)) := [[some (.inl 1), some (.inr (4, 3)), some (.inr (2, 3)), some (.inl 5), some (.inl 10), some (.inr (0, 7)), some (.inr (0, 16)), some (.inr (0, 40))],
  [some (.inr (1, 600)), none, none, none, some (.inr (0, 3)), some (.inr (5, 2)), some (.inr (6, 2)), some (.inr (7, 2))],
  [none, none, none, none, none, some (.inr (0, 6)), some (.inr (0, 15)), some (.inr (0, 15)), some (.inr (0, 15)), some (.inr (0, 36)), some (.inr (0, 12)), some (.inr (0, 12)), some (.inr (0, 12)), some (.inr (0, 12)), some (.inr (0, 6)), some (.inr (0, 6)), some (.inr (0, 6))],
  [none, some (.inr (0, 40)), some (.inr (0, 40)), some (.inr (0, 40))],
  [none, some (.inr (0, 8)), some (.inr (0, 8))],
  [some (.inl 2), some (.inl 3), some (.inl 4), some (.inr (0, 4)), none, none, none, none, none, none, none, none, none, none],
  [none, none, none, none, none, none, none, none, none, none, none],
  [none, none, none, none, none, none, none, none, none, none, none, none, none, none],
  [none, some (.inr (0, 4)), some (.inr (0, 4)), some (.inr (0, 4))],
  [none, none, none, none, none, none, none, none],
  [none, none, none, none, none, some (.inr (8, 360)), none, some (.inr (9, 360)), none, some (.inl 7), some (.inl 7), some (.inr (0, 36)), some (.inr (3, 6)), some (.inr (10, 6)), some (.inr (11, 60)), some (.inr (0, 7))],
  [none, some (.inr (1, 2400)), some (.inr (0, 4)), some (.inr (0, 4)), some (.inr (0, 4)), some (.inr (0, 12)), some (.inr (0, 976)), some (.inr (0, 968)), some (.inr (0, 136)), none, none, none, none, none, none, none, none, none, some (.inr (0, 122)), some (.inr (0, 4)), none, none, none, none, none, some (.inr (0, 36)), none, none, some (.inr (3, 6)), some (.inr (0, 36)), some (.inr (0, 6)), some (.inr (0, 36)), some (.inr (0, 36)), some (.inr (0, 36)), some (.inr (0, 6)), some (.inr (0, 384)), some (.inr (0, 384)), some (.inr (0, 384)), some (.inr (3, 384)), some (.inr (3, 384)), some (.inr (0, 384)), some (.inr (0, 384)), some (.inr (0, 384)), some (.inr (0, 384)), some (.inr (0, 384)), none, some (.inr (0, 4096)), some (.inr (0, 4096)), some (.inr (0, 4096)), some (.inr (0, 4096)), some (.inr (0, 4096)), some (.inr (0, 4096)), some (.inr (0, 4096)), some (.inr (0, 4096)), some (.inr (0, 4096)), some (.inr (0, 4096)), some (.inr (0, 4096)), some (.inr (0, 64)), some (.inr (0, 64)), some (.inr (0, 64)), some (.inr (0, 64)), some (.inr (0, 64)), some (.inr (0, 64)), some (.inr (0, 64)), some (.inr (0, 64)), none, none, none, none, none, none, none, none, none, none, none, none, some (.inr (0, 48)), some (.inr (0, 8)), none, some (.inr (0, 36)), none, none, none, some (.inr (0, 40)), none, some (.inr (2, 3))]]
def sk (ci k : Nat) : Option Kd := (skl.getD ci []).getD k none
/-! the abstract heap: whole numbers, longs, references, by address and place; a layout: what stands at an address -/
abbrev Hp : Type := (Nat → Nat → Int32) × (Nat → Nat → Int64) × (Nat → Nat → Option Nat)
abbrev Ly : Type := Nat → Option Kd
def sI (h : Hp) (a k : Nat) (x : Int32) : Hp := (fun a' k' => if a' = a ∧ k' = k then x else h.1 a' k', h.2.1, h.2.2)
def sL (h : Hp) (a k : Nat) (x : Int64) : Hp := (h.1, fun a' k' => if a' = a ∧ k' = k then x else h.2.1 a' k', h.2.2)
def sR (h : Hp) (a k : Nat) (x : Option Nat) : Hp := (h.1, h.2.1, fun a' k' => if a' = a ∧ k' = k then x else h.2.2 a' k')
def tV : Nat → Hp → Nat → Nat → Value
  | 0, h, a, j => .int (h.1 a j)
  | 1, h, a, j => .long (h.2.1 a j)
  | 2, h, a, j => va_rf (h.2.2 a j)
  | c + 3, _, a, _ => .ref (a + c)
def ek : Nat → Nat
  | 0 => 0
  | 1 => 0
  | 2 => 0
  | 3 => 1
  | _ => 2
def LyOk (K : Ly) : Prop := ∀ (a ci k c : Nat) (kd : Kd), K a = some (.inl ci) → fc ci k = c + 3 → sk ci k = some kd → K (a + c) = some kd
def KK (D : va_G) (cA : Nat → ClassId) (U : State) : Prop := (∀ (c : Nat) (q : vw_C), cls_l[c]? = some q → u_Kn U q.1 q.2.1 q.2.2 (D.1 c) (D.2 c)) ∧ ∀ (t : Nat) (ty : FieldType), ty_l[t]? = some ty → ArrOfT U (cA t) ty ∧ va_RA U (cA t) ty
theorem KK.moved {D : va_G} {cA : Nat → ClassId} {u U : State} (hvm : u.vm.Alike U.vm) (h : KK D cA u) : KK D cA U := ⟨fun c q hq => u_Kn_moved hvm (h.1 c q hq), fun k q hk => ⟨arrOfT_moved hvm (h.2 k q hk).1, (h.2 k q hk).2.moved hvm⟩⟩
def isNest : Cond → Bool
  | .fieldLinkNest .. => true
  | .methodLinkNest .. => true
  | _ => false
def NW (U : State) : Prop := ∀ w ∈ lw_tbl, isNest w = true → va_Nw w U
theorem NW.same {u U : State} (hv : u.vm = U.vm) (h : NW u) : NW U := by
  intro w hw hn
  have h1 := h w hw hn
  cases w <;> first | (cases hn; done) | exact h1.same rfl hv
theorem NW.warm {s U : State} (hW : s.WarmedH U.vm) (h : NW s) : NW U := by
  intro w hw hn
  have h1 := h w hw hn
  cases w <;> first | (cases hn; done) | exact h1.warmF hW | exact h1.warmM hW
/-- the words that every method bears -/
def lw_g : List Cond := lw_tbl.filter goodWord
theorem in_g {w : Cond} (i : Nat) (h : lw_tbl[i]? = some w) (hg : goodWord w = true) : w ∈ lw_g := List.mem_filter.mpr ⟨List.mem_of_getElem? h, hg⟩
theorem good_g {w : Cond} (h : w ∈ lw_g) : goodWord w = true := (List.mem_filter.mp h).2
/-- String constants, the table of verbs -/
abbrev Sp : Type := (Nat → Nat) × (Nat → Nat) × Nat
def es_ix : List Nat := [165, 166, 167, 168, 170, 172, 174, 176, 178, 180, 182, 184, 186, 188, 190, 192, 194, 196, 198, 200, 202, 204, 206, 208]
def es_tx : List String := ["nodes", "life", "room", "link", "route", "serve", "ask", "fresh", "wait", "cut", "mend", "got", "lost", "c", "l", "nr", "nmd", "nwmf", "nwf", "nw", "t", "nm", "kf", "k"]
def es_len : List Nat := [5, 4, 4, 4, 5, 5, 3, 5, 4, 3, 4, 3, 4, 1, 1, 2, 3, 4, 3, 2, 1, 2, 2, 1]
def es_byt : List (List Int32) := [[110, 111, 100, 101, 115], [108, 105, 102, 101], [114, 111, 111, 109], [108, 105, 110, 107], [114, 111, 117, 116, 101], [115, 101, 114, 118, 101], [97, 115, 107], [102, 114, 101, 115, 104], [119, 97, 105, 116], [99, 117, 116], [109, 101, 110, 100], [103, 111, 116], [108, 111, 115, 116], [99], [108], [110, 114], [110, 109, 100], [110, 119, 109, 102], [110, 119, 102], [110, 119], [116], [110, 109], [107, 102], [107]]
def ES (sp : Sp) (A : Nat → Prop) (U : State) (H : Heap) : Prop := vk_S 24 es_len es_byt sp.1 sp.2.1 A U H ∧ (∀ i, i < 24 → vk_R "AskedNames$Reader" (es_ix.getD i 0) (es_tx.getD i "") (sp.1 i) U) ∧ va_Z "AskedNames$Reader" "VERBS" "[I" (.ref sp.2.2) A U H ∧ va_T .int sp.2.2 4 (fun j => .int (([0, 6, 11, 13] : List Int32).getD j 0)) A U H ∧ va_Z "java/lang/String" "COMPACT_STRINGS" "Z" (.int 1) A U H ∧ ∃ q : Option Nat, va_Z "jdk/internal/util/Preconditions" "SIOOBE_FORMATTER" "Ljava/util/function/BiFunction;" (va_rf q) A U H
theorem ES.same {sp : Sp} {A : Nat → Prop} {u U : State} {H : Heap} (hv : u.vm = U.vm) (h : ES sp A u H) : ES sp A U H :=
  have ha : u.vm.Alike U.vm := hv ▸ Vm.Alike.refl u.vm
  ⟨h.1.moved ha, fun i hi => (h.2.1 i hi).same hv.symm, h.2.2.1.moved ha, h.2.2.2.1.moved ha, h.2.2.2.2.1.moved ha, h.2.2.2.2.2.imp fun _ hq => hq.moved ha⟩
theorem ES.warm {sp : Sp} {A : Nat → Prop} {s U : State} {H H1 : Heap} (hW : s.WarmedH U.vm) (hq : ∀ a : Nat, a < H.size → ¬ A a → H1[a]? = H[a]?) (h : ES sp A s H) : ES sp A U H1 :=
  have ha : s.vm.Alike U.vm := hW.alike
  ⟨(h.1.moved ha).kept hq, fun i hi => (h.2.1 i hi).warm hW, (h.2.2.1.moved ha).kept hq, (h.2.2.2.1.moved ha).kept hq, (h.2.2.2.2.1.moved ha).kept hq, h.2.2.2.2.2.imp fun _ hz => (hz.moved ha).kept hq⟩
/-- what a method finds around it -/
def KE (D : va_G) (cA : Nat → ClassId) (A : Nat → Prop) (sp : Sp) (U : State) (H : Heap) : Prop := KK D cA U ∧ NW U ∧ ES sp A U H
theorem KE.same {D : va_G} {cA : Nat → ClassId} {A : Nat → Prop} {sp : Sp} {u U : State} {H : Heap} (hv : u.vm = U.vm) (h : KE D cA A sp u H) : KE D cA A sp U H := ⟨h.1.moved (hv ▸ Vm.Alike.refl u.vm), h.2.1.same hv, h.2.2.same hv⟩
theorem KE.warm {D : va_G} {cA : Nat → ClassId} {A : Nat → Prop} {sp : Sp} {s U : State} {H H1 : Heap} (hW : s.WarmedH U.vm) (hq : ∀ a : Nat, a < H.size → ¬ A a → H1[a]? = H[a]?) (h : KE D cA A sp s H) : KE D cA A sp U H1 := ⟨h.1.moved hW.alike, h.2.1.warm hW, h.2.2.warm hW hq⟩
def RO (D : va_G) (cA : Nat → ClassId) (h : Hp) (a : Nat) (H : Heap) : Kd → Prop
  | .inl ci => ∃ r : vw_C, cls_l[ci]? = some r ∧ t_OB a (D.1 ci) r.2.2 (D.2 ci) H (fun j => tV (fc ci j) h a j)
  | .inr (t, n) => H[a]? = some (arrV (cA t) n (fun j => tV (ek t) h a j)) ∧ (t = 1 → ∀ j, j < n → fits .byte (.int (h.1 a j)) = true)
def REL (D : va_G) (cA : Nat → ClassId) (A : Nat → Prop) (sz : Nat) (K : Ly) (h : Hp) (H : Heap) : Prop := H.size = sz ∧ ∀ (a : Nat) (k : Kd), K a = some k → A a ∧ RO D cA h a H k
theorem RO.kept {D : va_G} {cA : Nat → ClassId} {h h' : Hp} {a : Nat} {H H1 : Heap} {k : Kd} (hr : RO D cA h a H k) (hq : H1[a]? = H[a]?) (hh : ∀ (c j : Nat), tV c h' a j = tV c h a j) : RO D cA h' a H1 k := by
  match k, hr with
  | .inl ci, ⟨r, e1, e2⟩ => exact ⟨r, e1, (e2.kept hq).to (fun j _ => (hh _ _).symm)⟩
  | .inr (t, n), hr =>
    refine ⟨?_, fun ht j hj => ?_⟩
    · rw [hq, show (fun j => tV (ek t) h' a j) = (fun j => tV (ek t) h a j) from funext (fun j => hh _ _)]
      exact hr.1
    · have e : Value.int (h'.1 a j) = .int (h.1 a j) := hh 0 j
      rw [e]; exact hr.2 ht j hj
theorem tV_sI {h : Hp} {a k : Nat} {x : Int32} {b : Nat} (hb : b ≠ a) (c j : Nat) : tV c (sI h a k x) b j = tV c h b j := by
  match c with
  | 0 => simp [tV, sI, hb]
  | 1 => rfl
  | 2 => rfl
  | c + 3 => rfl
theorem tV_sL {h : Hp} {a k : Nat} {x : Int64} {b : Nat} (hb : b ≠ a) (c j : Nat) : tV c (sL h a k x) b j = tV c h b j := by
  match c with
  | 0 => rfl
  | 1 => simp [tV, sL, hb]
  | 2 => rfl
  | c + 3 => rfl
theorem tV_sR {h : Hp} {a k : Nat} {x : Option Nat} {b : Nat} (hb : b ≠ a) (c j : Nat) : tV c (sR h a k x) b j = tV c h b j := by
  match c with
  | 0 => rfl
  | 1 => rfl
  | 2 => simp [tV, sR, hb]
  | c + 3 => rfl
/-- one cell has changed -/
theorem REL.one {D : va_G} {cA : Nat → ClassId} {A : Nat → Prop} {sz : Nat} {K : Ly} {h h' : Hp} {H H1 : Heap} {a : Nat} (hr : REL D cA A sz K h H) (z : H1.size = H.size) (oq : ∀ q : Nat, q ≠ a → H1[q]? = H[q]?) (hh : ∀ b, b ≠ a → ∀ c j, tV c h' b j = tV c h b j) (ha : ∀ k, K a = some k → RO D cA h' a H1 k) : REL D cA A sz K h' H1 := by
  refine ⟨by rw [z]; exact hr.1, fun b k hk => ⟨(hr.2 b k hk).1, ?_⟩⟩
  by_cases hb : b = a
  · subst hb; exact ha k hk
  · exact (hr.2 b k hk).2.kept (oq b hb) (hh b hb)
/-! the walk -/
abbrev CT : Type := (Program × Launch × Env × Room × State × MethodId × Array Value × List Frame × Method × Code) × va_G × (Nat → ClassId) × (Nat → Prop) × Sp × Nat × Nat × Nat × Option Value × Nat × Ly × Hp
def QC (D : va_G) (cA : Nat → ClassId) (A : Nat → Prop) (v : Option Value) (zf : Nat) (Kf : Ly) (hf : Hp) : Array Value → State → Outcome → State → Prop := fun _ st oc t => oc = .returned v ∧ REL D cA A zf Kf hf t.heap ∧ va_F A st t
def Go (Γ : CT) (cs : Nat × Nat) (pc : Nat) (lv : List (Nat × Value)) (st : List Value) (sz : Nat) (K : Ly) (h : Hp) : Prop :=
  match Γ with
  | ⟨⟨p, l, e, R, s, m, args, below, meth, c⟩, D, cA, A, _, nL, mc, ms, v, zf, Kf, hf⟩ => ∀ (H : Heap) (locs : List Loc) (ls : Array Slot), lv_has ls nL lv → REL D cA A sz K h H → va_S A s.heap H locs → W p l e R s m args below meth c H locs cs.1 cs.2 (MQ below (QC D cA A v zf Kf hf) args s mc ms A) (F0 m pc ls st)
def Ok (Γ : CT) (sp : Sp) (cc : ByteArray) (own : String) (nL : Nat) (ret : Option FieldType) (lev : Nat) (v : Option Value) (zf : Nat) (Kf : Ly) (hf : Hp) : Prop :=
  match Γ with
  | ⟨⟨p, _, _, R, s, m, args, _, meth, c⟩, D, cA, A, sp0, nL0, mc, ms, v0, zf0, Kf0, hf0⟩ => p.tables.exec = Jvm.exec ∧ c.code = cc ∧ c.maxLocals = nL ∧ nL0 = nL ∧ meth.sig.returnType = ret ∧ s.vm.findClass own = some m.cls ∧ (∀ w ∈ lw_g, w.before args s = true) ∧ meth.locks = false ∧ KE D cA A sp0 s s.heap ∧ (lev ≤ R.frames ∧ 40 * lev ≤ R.locals ∧ mc = R.cells ∧ ms = R.slots) ∧ v0 = v ∧ zf0 = zf ∧ Kf0 = Kf ∧ hf0 = hf ∧ sp0 = sp
/-- in a constructor -/
def Oi (Γ : CT) (M N : Nat) : Prop :=
  match Γ with
  | ⟨⟨_, _, _, _, s, _, _, _, meth, _⟩, _, _, A, _, _, mc, ms, _⟩ => meth.name = "<init>" ∧ (∀ q, s.heap.size ≤ q → A q) ∧ mc = M ∧ ms = N
def rmL (lev mc ms : Nat) : Room := { frames := lev, cells := mc, slots := ms, locals := 40 * lev }
/-- a method's contract: at these arguments, over this layout and this heap, it returns v, and the heap is h' -/
def Con (sp : Sp) (y : MethodName) (b : ByteArray) (nL : Nat) (ret : Option FieldType) (lev mc ms : Nat) (as : List Value) (sz : Nat) (K : Ly) (h : Hp) (v : Option Value) (zf : Nat) (Kf : Ly) (hf : Hp) : Prop :=
  ∀ (l : Launch) (D : va_G) (cA : Nat → ClassId) (A : Nat → Prop), (0 < mc → ∀ q, sz ≤ q → A q) → Met l y (.code y b nL ret :: lw_g) (rmL lev mc ms) (fun args U => args = as.toArray ∧ KE D cA A sp U U.heap ∧ REL D cA A sz K h U.heap) (QC D cA A v zf Kf hf) mc ms A
theorem Con.of {sp : Sp} {y : MethodName} {b : ByteArray} {nL : Nat} {ret : Option FieldType} {lev mc ms : Nat} {as : List Value} {sz : Nat} {K : Ly} {h : Hp} {v : Option Value} {zf : Nat} {Kf : Ly} {hf : Hp} (hy : plainName y.cls = true) (hn : (lg_sl as).length ≤ nL)
    (k : ∀ Γ : CT, Ok Γ sp b y.cls nL ret lev v zf Kf hf → (0 < mc → y.name = "<init>" → Oi Γ mc ms) → Go Γ (0, 0) 0 (lv_args 0 as) [] sz K h) : Con sp y b nL ret lev mc ms as sz K h v zf Kf hf := by
  intro l D cA A hA
  refine Met.ofW (cc := b) (maxL := nL) (ret := ret) hy rfl ?_
  intro p e s m args below meth c s₁ B hml hv
  obtain ⟨rfl, hK, hR⟩ := hv
  have hts := atoms_spec (ws := .code y b nL ret :: lw_g) B.pre
  have hown : s.vm.findClass y.cls = some m.cls := findClass_of_methodNamed B.named
  have hnm := (name_of_methodNamed B.named B.method).1
  rw [lg_entry_eq]
  have hl := lv_entry as (n := nL) hn
  exact k ⟨⟨p, l, e, _, s, m, as.toArray, below, meth, c⟩, D, cA, A, sp, nL, mc, ms, v, zf, Kf, hf⟩ ⟨B.exec, B.bytes, hml, rfl, B.returns, hown, fun w hw => hts w (List.mem_cons_of_mem _ hw), B.notSynchronized, hK, ⟨Nat.le_refl _, Nat.le_refl _, rfl, rfl⟩, rfl, rfl, rfl, rfl, rfl⟩ (fun h1 h2 => ⟨hnm.trans h2, fun q hq => hA h1 q (by rw [← hR.1]; exact hq), rfl, rfl⟩) _ [] _ hl hR va_S.rf

