/-! NAMES, by program: classes, fields in the order of the slots, methods, their code -/
def bCns : List String := ["Buildmill$Action", "Buildmill$Cache", "Buildmill$Crew", "Buildmill$Disk", "Buildmill$Entry", "Buildmill$Mill", "Buildmill$Plan", "Buildmill$Rules", "Buildmill$Target", "Buildmill$Targets", "Buildmill$Tools", "Buildmill", "BuildmillModel"]
def bCn (k : Nat) : String := bnth bCns k ""
def bFl0 : List (String × String × String × Bool) := [("Buildmill$Action", "directory", "I", false), ("Buildmill$Action", "inputCount", "I", false), ("Buildmill$Action", "inputs", "[I", true), ("Buildmill$Action", "now", "LBuildmill$Entry;", true), ("Buildmill$Action", "kept", "LBuildmill$Entry;", true), ("Buildmill$Action", "isWanted", "Z", false), ("Buildmill$Action", "kind", "I", false), ("Buildmill$Action", "duration", "I", false), ("Buildmill$Action", "isBoth", "Z", false), ("Buildmill$Action", "weight", "I", false), ("Buildmill$Action", "outcome", "I", false), ("Buildmill$Action", "began", "I", false), ("Buildmill$Action", "ended", "I", false), ("Buildmill$Action", "triedAt", "I", false), ("Buildmill$Action", "worker", "I", false), ("Buildmill$Action", "fetchEnd", "I", false), ("Buildmill$Action", "hereEnd", "I", false), ("Buildmill$Action", "awayEnd", "I", false)]
def bFl1 : List (String × String × String × Bool) := [("Buildmill$Cache", "count", "I", false), ("Buildmill$Cache", "entries", "[LBuildmill$Entry;", true), ("Buildmill$Cache", "bytes", "[Z", true)]
def bFl2 : List (String × String × String × Bool) := [("Buildmill$Crew", "counts", "[I", true), ("Buildmill$Crew", "warmFor", "[I", true), ("Buildmill$Crew", "busy", "[Z", true)]
def bFl3 : List (String × String × String × Bool) := [("Buildmill$Disk", "contents", "[I", true), ("Buildmill$Disk", "packages", "[Z", true), ("Buildmill$Disk", "owners", "[I", true), ("Buildmill$Disk", "isSandboxed", "Z", false)]
def bFl4 : List (String × String × String × Bool) := [("Buildmill$Entry", "operation", "I", false), ("Buildmill$Entry", "number", "I", false), ("Buildmill$Entry", "version", "I", false), ("Buildmill$Entry", "count", "I", false), ("Buildmill$Entry", "contents", "[I", true), ("Buildmill$Entry", "foundCount", "I", false), ("Buildmill$Entry", "founds", "[I", true), ("Buildmill$Entry", "looksFurther", "Z", false), ("Buildmill$Entry", "content", "I", false)]
def bFl5 : List (String × String × String × Bool) := [("Buildmill$Mill", "files", "LBuildmill$Disk;", true), ("Buildmill$Mill", "plan", "LBuildmill$Plan;", true), ("Buildmill$Mill", "near", "LBuildmill$Cache;", true), ("Buildmill$Mill", "far", "LBuildmill$Cache;", true), ("Buildmill$Mill", "crew", "LBuildmill$Crew;", true), ("Buildmill$Mill", "isFarReached", "Z", false), ("Buildmill$Mill", "latency", "I", false), ("Buildmill$Mill", "figures", "[I", true), ("Buildmill$Mill", "firstFailed", "I", false), ("Buildmill$Mill", "time", "I", false), ("Buildmill$Mill", "isStopped", "Z", false), ("Buildmill$Mill", "stack", "[I", true), ("Buildmill$Mill", "places", "[I", true)]
def bFl6 : List (String × String × String × Bool) := [("Buildmill$Plan", "files", "LBuildmill$Disk;", true), ("Buildmill$Plan", "rules", "LBuildmill$Rules;", true), ("Buildmill$Plan", "tools", "LBuildmill$Tools;", true), ("Buildmill$Plan", "targets", "LBuildmill$Targets;", true), ("Buildmill$Plan", "marks", "[I", true), ("Buildmill$Plan", "order", "[I", true), ("Buildmill$Plan", "faults", "[I", true), ("Buildmill$Plan", "made", "[I", true), ("Buildmill$Plan", "stack", "[I", true), ("Buildmill$Plan", "places", "[I", true), ("Buildmill$Plan", "mark", "I", false), ("Buildmill$Plan", "orderCount", "I", false), ("Buildmill$Plan", "depth", "I", false), ("Buildmill$Plan", "count", "I", false), ("Buildmill$Plan", "actions", "[LBuildmill$Action;", true), ("Buildmill$Plan", "spare", "LBuildmill$Action;", true)]
def bFl7 : List (String × String × String × Bool) := [("Buildmill$Rules", "sizes", "[I", true), ("Buildmill$Rules", "kinds", "[I", true), ("Buildmill$Rules", "firsts", "[I", true), ("Buildmill$Rules", "seconds", "[I", true), ("Buildmill$Rules", "origins", "[I", true), ("Buildmill$Rules", "things", "[I", true), ("Buildmill$Rules", "marks", "[I", true), ("Buildmill$Rules", "places", "[I", true), ("Buildmill$Rules", "stack", "[I", true), ("Buildmill$Rules", "listSizes", "[I", true), ("Buildmill$Rules", "makers", "[I", true), ("Buildmill$Rules", "numbers", "[I", true), ("Buildmill$Rules", "listCount", "I", false), ("Buildmill$Rules", "depth", "I", false), ("Buildmill$Rules", "reason", "I", false), ("Buildmill$Rules", "evaluated", "I", false)]
def bFl8 : List (String × String × String × Bool) := [("Buildmill$Target", "directory", "I", true), ("Buildmill$Target", "operation", "I", true), ("Buildmill$Target", "number", "I", true), ("Buildmill$Target", "ruleAt", "I", false), ("Buildmill$Target", "ruleNumber", "I", false), ("Buildmill$Target", "type", "I", false), ("Buildmill$Target", "settingsKept", "I", false), ("Buildmill$Target", "settingsMoved", "I", false), ("Buildmill$Target", "kind", "I", false), ("Buildmill$Target", "duration", "I", false), ("Buildmill$Target", "isBoth", "Z", false), ("Buildmill$Target", "shardCount", "I", false), ("Buildmill$Target", "luck", "I", false), ("Buildmill$Target", "itemCount", "I", false), ("Buildmill$Target", "conditionCount", "I", false), ("Buildmill$Target", "items", "[I", true), ("Buildmill$Target", "conditions", "[I", true), ("Buildmill$Target", "fates", "[I", true), ("Buildmill$Target", "trials", "[J", true)]
def bFl9 : List (String × String × String × Bool) := [("Buildmill$Targets", "count", "I", false), ("Buildmill$Targets", "row", "[LBuildmill$Target;", true), ("Buildmill$Targets", "spare", "LBuildmill$Target;", true), ("Buildmill$Targets", "distances", "[I", true)]
def bFl10 : List (String × String × String × Bool) := [("Buildmill$Tools", "configuration", "I", false), ("Buildmill$Tools", "count", "I", false), ("Buildmill$Tools", "types", "[I", true), ("Buildmill$Tools", "needs", "[I", true), ("Buildmill$Tools", "values", "[I", true), ("Buildmill$Tools", "versions", "[I", true)]
def bFl11 : List (String × String × String × Bool) := [("Buildmill", "files", "LBuildmill$Disk;", true), ("Buildmill", "rules", "LBuildmill$Rules;", true), ("Buildmill", "tools", "LBuildmill$Tools;", true), ("Buildmill", "targets", "LBuildmill$Targets;", true), ("Buildmill", "plan", "LBuildmill$Plan;", true), ("Buildmill", "mill", "LBuildmill$Mill;", true), ("Buildmill", "triesMade", "I", false), ("Buildmill", "draws", "J", false)]
def bFl12 : List (String × String × String × Bool) := [("BuildmillModel", "refusal", "I", false), ("BuildmillModel", "files", "[I", true), ("BuildmillModel", "isPackage", "[Z", true), ("BuildmillModel", "statementCount", "[I", true), ("BuildmillModel", "statements", "[I", true), ("BuildmillModel", "nameKinds", "[I", true), ("BuildmillModel", "nameValues", "[I", true), ("BuildmillModel", "lists", "I", false), ("BuildmillModel", "listMakers", "[I", true), ("BuildmillModel", "listSizes", "[I", true), ("BuildmillModel", "listNumbers", "[I", true), ("BuildmillModel", "fileStates", "[I", true), ("BuildmillModel", "filePlaces", "[I", true), ("BuildmillModel", "fileReasons", "[I", true), ("BuildmillModel", "fileCauses", "[I", true), ("BuildmillModel", "going", "[I", true), ("BuildmillModel", "settings", "[I", true), ("BuildmillModel", "tools", "I", false), ("BuildmillModel", "toolTypes", "[I", true), ("BuildmillModel", "toolSettings", "[I", true), ("BuildmillModel", "toolValues", "[I", true), ("BuildmillModel", "toolVersions", "[I", true), ("BuildmillModel", "targets", "I", false), ("BuildmillModel", "homes", "[I", true), ("BuildmillModel", "operations", "[I", true), ("BuildmillModel", "ownNumbers", "[I", true), ("BuildmillModel", "ruleFiles", "[I", true), ("BuildmillModel", "ruleNames", "[I", true), ("BuildmillModel", "types", "[I", true), ("BuildmillModel", "transitions", "[I", true), ("BuildmillModel", "transitionValues", "[I", true), ("BuildmillModel", "conditionCount", "[I", true), ("BuildmillModel", "conditions", "[I", true), ("BuildmillModel", "itemCount", "[I", true), ("BuildmillModel", "itemKinds", "[I", true), ("BuildmillModel", "itemWhats", "[I", true), ("BuildmillModel", "areDeep", "[Z", true), ("BuildmillModel", "workKinds", "[I", true), ("BuildmillModel", "durations", "[I", true), ("BuildmillModel", "areBoth", "[Z", true), ("BuildmillModel", "shardCount", "[I", true), ("BuildmillModel", "lucks", "[I", true), ("BuildmillModel", "isNeeded", "[Z", true), ("BuildmillModel", "errors", "[I", true), ("BuildmillModel", "causes", "[I", true), ("BuildmillModel", "numbers", "[I", true), ("BuildmillModel", "versions", "[I", true), ("BuildmillModel", "acts", "[I", true), ("BuildmillModel", "givesNow", "[I", true), ("BuildmillModel", "actions", "I", false), ("BuildmillModel", "actOperations", "[I", true), ("BuildmillModel", "actNumbers", "[I", true), ("BuildmillModel", "actVersions", "[I", true), ("BuildmillModel", "actHomes", "[I", true), ("BuildmillModel", "inputCount", "[I", true), ("BuildmillModel", "inputs", "[I", true), ("BuildmillModel", "finders", "[I", true), ("BuildmillModel", "finderBack", "[I", true), ("BuildmillModel", "isFound", "[Z", true), ("BuildmillModel", "isKept", "[Z", true), ("BuildmillModel", "everDone", "[Z", true), ("BuildmillModel", "outputs", "[I", true), ("BuildmillModel", "keptInputs", "[I", true), ("BuildmillModel", "keptCount", "[I", true), ("BuildmillModel", "keptFound", "[I", true), ("BuildmillModel", "row", "[I", true), ("BuildmillModel", "trail", "[I", true), ("BuildmillModel", "trailItems", "[I", true), ("BuildmillModel", "isSandbox", "Z", false), ("BuildmillModel", "contents", "[I", true), ("BuildmillModel", "foundCount", "I", false), ("BuildmillModel", "foundNow", "[I", true), ("BuildmillModel", "looksAtMore", "Z", false), ("BuildmillModel", "stamp", "I", false), ("BuildmillModel", "stamps", "[I", true), ("BuildmillModel", "entryOperations", "[I", true), ("BuildmillModel", "entryNumbers", "[I", true), ("BuildmillModel", "entryVersions", "[I", true), ("BuildmillModel", "entryCounts", "[I", true), ("BuildmillModel", "entryInputs", "[I", true), ("BuildmillModel", "entryFounds", "[I", true), ("BuildmillModel", "entryFound", "[I", true), ("BuildmillModel", "entryContents", "[I", true), ("BuildmillModel", "willGive", "[I", true), ("BuildmillModel", "willCount", "[I", true), ("BuildmillModel", "willFound", "[I", true), ("BuildmillModel", "willLook", "[Z", true), ("BuildmillModel", "isFarOpen", "Z", false), ("BuildmillModel", "latency", "I", false), ("BuildmillModel", "isHere", "[Z", true), ("BuildmillModel", "isFar", "[Z", true), ("BuildmillModel", "workerCount", "[I", true), ("BuildmillModel", "warm", "[I", true), ("BuildmillModel", "isBusy", "[Z", true), ("BuildmillModel", "told", "[I", true), ("BuildmillModel", "failedFirst", "I", false), ("BuildmillModel", "isWanted", "[Z", true), ("BuildmillModel", "weights", "[I", true), ("BuildmillModel", "statuses", "[I", true), ("BuildmillModel", "began", "[I", true), ("BuildmillModel", "endedAt", "[I", true), ("BuildmillModel", "hereEnds", "[I", true), ("BuildmillModel", "farEnds", "[I", true), ("BuildmillModel", "isFetched", "[Z", true), ("BuildmillModel", "workerOf", "[I", true), ("BuildmillModel", "now", "I", false), ("BuildmillModel", "hasStopped", "Z", false), ("BuildmillModel", "chain", "[I", true), ("BuildmillModel", "chainPlaces", "[I", true), ("BuildmillModel", "shardResults", "[I", true), ("BuildmillModel", "shardsKept", "[I", true), ("BuildmillModel", "tries", "I", false), ("BuildmillModel", "seed", "I", false), ("BuildmillModel", "distances", "[I", true)]
def bFls : List (List (String × String × String × Bool)) := [bFl0, bFl1, bFl2, bFl3, bFl4, bFl5, bFl6, bFl7, bFl8, bFl9, bFl10, bFl11, bFl12]
def bFn (ci : Nat) : u_T := fun k => bnth (bnth bFls ci []) k ("", "", "", false)
def bNf (ci : Nat) : Nat := bnth [18, 3, 3, 4, 9, 13, 16, 16, 19, 4, 6, 8, 114] ci 0
def bTyl0 : List FieldType := [.int, .int, .array (.int), .object "Buildmill$Entry", .object "Buildmill$Entry", .boolean, .int, .int, .boolean, .int, .int, .int, .int, .int, .int, .int, .int, .int]
def bTyl1 : List FieldType := [.int, .array (.object "Buildmill$Entry"), .array (.boolean)]
def bTyl2 : List FieldType := [.array (.int), .array (.int), .array (.boolean)]
def bTyl3 : List FieldType := [.array (.int), .array (.boolean), .array (.int), .boolean]
def bTyl4 : List FieldType := [.int, .int, .int, .int, .array (.int), .int, .array (.int), .boolean, .int]
def bTyl5 : List FieldType := [.object "Buildmill$Disk", .object "Buildmill$Plan", .object "Buildmill$Cache", .object "Buildmill$Cache", .object "Buildmill$Crew", .boolean, .int, .array (.int), .int, .int, .boolean, .array (.int), .array (.int)]
def bTyl6 : List FieldType := [.object "Buildmill$Disk", .object "Buildmill$Rules", .object "Buildmill$Tools", .object "Buildmill$Targets", .array (.int), .array (.int), .array (.int), .array (.int), .array (.int), .array (.int), .int, .int, .int, .int, .array (.object "Buildmill$Action"), .object "Buildmill$Action"]
def bTyl7 : List FieldType := [.array (.int), .array (.int), .array (.int), .array (.int), .array (.int), .array (.int), .array (.int), .array (.int), .array (.int), .array (.int), .array (.int), .array (.int), .int, .int, .int, .int]
def bTyl8 : List FieldType := [.int, .int, .int, .int, .int, .int, .int, .int, .int, .int, .boolean, .int, .int, .int, .int, .array (.int), .array (.int), .array (.int), .array (.long)]
def bTyl9 : List FieldType := [.int, .array (.object "Buildmill$Target"), .object "Buildmill$Target", .array (.int)]
def bTyl10 : List FieldType := [.int, .int, .array (.int), .array (.int), .array (.int), .array (.int)]
def bTyl11 : List FieldType := [.object "Buildmill$Disk", .object "Buildmill$Rules", .object "Buildmill$Tools", .object "Buildmill$Targets", .object "Buildmill$Plan", .object "Buildmill$Mill", .int, .long]
def bTyl12 : List FieldType := [.int, .array (.int), .array (.boolean), .array (.int), .array (.int), .array (.int), .array (.int), .int, .array (.int), .array (.int), .array (.int), .array (.int), .array (.int), .array (.int), .array (.int), .array (.int), .array (.int), .int, .array (.int), .array (.int), .array (.int), .array (.int), .int, .array (.int), .array (.int), .array (.int), .array (.int), .array (.int), .array (.int), .array (.int), .array (.int), .array (.int), .array (.int), .array (.int), .array (.int), .array (.int), .array (.boolean), .array (.int), .array (.int), .array (.boolean), .array (.int), .array (.int), .array (.boolean), .array (.int), .array (.int), .array (.int), .array (.int), .array (.int), .array (.int), .int, .array (.int), .array (.int), .array (.int), .array (.int), .array (.int), .array (.int), .array (.int), .array (.int), .array (.boolean), .array (.boolean), .array (.boolean), .array (.int), .array (.int), .array (.int), .array (.int), .array (.int), .array (.int), .array (.int), .boolean, .array (.int), .int, .array (.int), .boolean, .int, .array (.int), .array (.int), .array (.int), .array (.int), .array (.int), .array (.int), .array (.int), .array (.int), .array (.int), .array (.int), .array (.int), .array (.int), .array (.boolean), .boolean, .int, .array (.boolean), .array (.boolean), .array (.int), .array (.int), .array (.boolean), .array (.int), .int, .array (.boolean), .array (.int), .array (.int), .array (.int), .array (.int), .array (.int), .array (.int), .array (.boolean), .array (.int), .int, .boolean, .array (.int), .array (.int), .array (.int), .array (.int), .int, .int, .array (.int)]
def bTyls : List (List FieldType) := [bTyl0, bTyl1, bTyl2, bTyl3, bTyl4, bTyl5, bTyl6, bTyl7, bTyl8, bTyl9, bTyl10, bTyl11, bTyl12]
def bFty (ci k : Nat) : FieldType := bnth (bnth bTyls ci []) k .int
def bFT0 : List (Nat × Nat × Nat × Nat) := [(0, 0, 0, 0), (0, 0, 0, 0), (3, 13, 1, 0), (3, 4, 2, 0), (3, 4, 2, 1), (1, 0, 0, 0), (0, 0, 0, 0), (0, 0, 0, 0), (1, 0, 0, 0), (0, 0, 0, 0), (0, 0, 0, 0), (0, 0, 0, 0), (0, 0, 0, 0), (0, 0, 0, 0), (0, 0, 0, 0), (0, 0, 0, 0), (0, 0, 0, 0), (0, 0, 0, 0)]
def bFT1 : List (Nat × Nat × Nat × Nat) := [(0, 0, 0, 0), (3, 14, 1, 0), (3, 15, 1, 0)]
def bFT2 : List (Nat × Nat × Nat × Nat) := [(3, 16, 1, 0), (3, 17, 1, 0), (3, 18, 1, 0)]
def bFT3 : List (Nat × Nat × Nat × Nat) := [(3, 19, 1, 0), (3, 20, 1, 0), (3, 21, 1, 0), (1, 0, 0, 0)]
def bFT4 : List (Nat × Nat × Nat × Nat) := [(0, 0, 0, 0), (0, 0, 0, 0), (0, 0, 0, 0), (0, 0, 0, 0), (3, 22, 1, 0), (0, 0, 0, 0), (3, 23, 1, 0), (1, 0, 0, 0), (0, 0, 0, 0)]
def bFT5 : List (Nat × Nat × Nat × Nat) := [(3, 3, 0, 0), (3, 6, 0, 0), (3, 1, 0, 0), (3, 1, 0, 1), (3, 2, 0, 0), (1, 0, 0, 0), (0, 0, 0, 0), (3, 24, 1, 0), (0, 0, 0, 0), (0, 0, 0, 0), (1, 0, 0, 0), (3, 25, 1, 0), (3, 26, 1, 0)]
def bFT6 : List (Nat × Nat × Nat × Nat) := [(3, 3, 0, 0), (3, 7, 0, 0), (3, 10, 0, 0), (3, 9, 0, 0), (3, 27, 1, 0), (3, 28, 1, 0), (3, 29, 1, 0), (3, 30, 1, 0), (3, 31, 1, 0), (3, 32, 1, 0), (0, 0, 0, 0), (0, 0, 0, 0), (0, 0, 0, 0), (0, 0, 0, 0), (3, 33, 1, 0), (3, 0, 0, 0)]
def bFT7 : List (Nat × Nat × Nat × Nat) := [(3, 34, 1, 0), (3, 35, 1, 0), (3, 36, 1, 0), (3, 37, 1, 0), (3, 38, 1, 0), (3, 39, 1, 0), (3, 40, 1, 0), (3, 41, 1, 0), (3, 42, 1, 0), (3, 43, 1, 0), (3, 44, 1, 0), (3, 45, 1, 0), (0, 0, 0, 0), (0, 0, 0, 0), (0, 0, 0, 0), (0, 0, 0, 0)]
def bFT8 : List (Nat × Nat × Nat × Nat) := [(0, 0, 0, 0), (0, 0, 0, 0), (0, 0, 0, 0), (0, 0, 0, 0), (0, 0, 0, 0), (0, 0, 0, 0), (0, 0, 0, 0), (0, 0, 0, 0), (0, 0, 0, 0), (0, 0, 0, 0), (1, 0, 0, 0), (0, 0, 0, 0), (0, 0, 0, 0), (0, 0, 0, 0), (0, 0, 0, 0), (3, 46, 1, 0), (3, 47, 1, 0), (3, 48, 1, 0), (3, 49, 1, 0)]
def bFT9 : List (Nat × Nat × Nat × Nat) := [(0, 0, 0, 0), (3, 50, 1, 0), (3, 8, 0, 0), (3, 51, 1, 0)]
def bFT10 : List (Nat × Nat × Nat × Nat) := [(0, 0, 0, 0), (0, 0, 0, 0), (3, 52, 1, 0), (3, 53, 1, 0), (3, 54, 1, 0), (3, 55, 1, 0)]
def bFT11 : List (Nat × Nat × Nat × Nat) := [(3, 3, 0, 0), (3, 7, 0, 0), (3, 10, 0, 0), (3, 9, 0, 0), (3, 6, 0, 0), (3, 5, 0, 0), (0, 0, 0, 0), (2, 0, 0, 0)]
def bFT12 : List (Nat × Nat × Nat × Nat) := [(0, 0, 0, 0), (3, 56, 1, 0), (3, 57, 1, 0), (3, 58, 1, 0), (3, 59, 1, 0), (3, 60, 1, 0), (3, 61, 1, 0), (0, 0, 0, 0), (3, 62, 1, 0), (3, 63, 1, 0), (3, 64, 1, 0), (3, 65, 1, 0), (3, 66, 1, 0), (3, 67, 1, 0), (3, 68, 1, 0), (3, 69, 1, 0), (3, 70, 1, 0), (0, 0, 0, 0), (3, 71, 1, 0), (3, 72, 1, 0), (3, 73, 1, 0), (3, 74, 1, 0), (0, 0, 0, 0), (3, 75, 1, 0), (3, 76, 1, 0), (3, 77, 1, 0), (3, 78, 1, 0), (3, 79, 1, 0), (3, 80, 1, 0), (3, 81, 1, 0), (3, 82, 1, 0), (3, 83, 1, 0), (3, 84, 1, 0), (3, 85, 1, 0), (3, 86, 1, 0), (3, 87, 1, 0), (3, 88, 1, 0), (3, 89, 1, 0), (3, 90, 1, 0), (3, 91, 1, 0), (3, 92, 1, 0), (3, 93, 1, 0), (3, 94, 1, 0), (3, 95, 1, 0), (3, 96, 1, 0), (3, 97, 1, 0), (3, 98, 1, 0), (3, 99, 1, 0), (3, 100, 1, 0), (0, 0, 0, 0), (3, 101, 1, 0), (3, 102, 1, 0), (3, 103, 1, 0), (3, 104, 1, 0), (3, 105, 1, 0), (3, 106, 1, 0), (3, 107, 1, 0), (3, 108, 1, 0), (3, 109, 1, 0), (3, 110, 1, 0), (3, 111, 1, 0), (3, 112, 1, 0), (3, 113, 1, 0), (3, 114, 1, 0), (3, 115, 1, 0), (3, 116, 1, 0), (3, 117, 1, 0), (3, 118, 1, 0), (1, 0, 0, 0), (3, 119, 1, 0), (0, 0, 0, 0), (3, 120, 1, 0), (1, 0, 0, 0), (0, 0, 0, 0), (3, 121, 1, 0), (3, 122, 1, 0), (3, 123, 1, 0), (3, 124, 1, 0), (3, 125, 1, 0), (3, 126, 1, 0), (3, 127, 1, 0), (3, 128, 1, 0), (3, 129, 1, 0), (3, 130, 1, 0), (3, 131, 1, 0), (3, 132, 1, 0), (3, 133, 1, 0), (1, 0, 0, 0), (0, 0, 0, 0), (3, 134, 1, 0), (3, 135, 1, 0), (3, 136, 1, 0), (3, 137, 1, 0), (3, 138, 1, 0), (3, 139, 1, 0), (0, 0, 0, 0), (3, 140, 1, 0), (3, 141, 1, 0), (3, 142, 1, 0), (3, 143, 1, 0), (3, 144, 1, 0), (3, 145, 1, 0), (3, 146, 1, 0), (3, 147, 1, 0), (3, 148, 1, 0), (0, 0, 0, 0), (1, 0, 0, 0), (3, 149, 1, 0), (3, 150, 1, 0), (3, 151, 1, 0), (3, 152, 1, 0), (0, 0, 0, 0), (0, 0, 0, 0), (3, 153, 1, 0)]
def bFTs : List (List (Nat × Nat × Nat × Nat)) := [bFT0, bFT1, bFT2, bFT3, bFT4, bFT5, bFT6, bFT7, bFT8, bFT9, bFT10, bFT11, bFT12]
def bFk (ci k : Nat) : Nat × Nat × Nat × Nat := bnth (bnth bFTs ci []) k (0, 0, 0, 0)
def bCl : List vw_C := [(bCn 0, bFn 0, 18), (bCn 1, bFn 1, 3), (bCn 2, bFn 2, 3), (bCn 3, bFn 3, 4), (bCn 4, bFn 4, 9), (bCn 5, bFn 5, 13), (bCn 6, bFn 6, 16), (bCn 7, bFn 7, 16), (bCn 8, bFn 8, 19), (bCn 9, bFn 9, 4), (bCn 10, bFn 10, 6), (bCn 11, bFn 11, 8), (bCn 12, bFn 12, 114)]
noncomputable def bYs0 : List (MethodName × ByteArray × Option FieldType) := [(⟨"Buildmill$Action", "<init>", "()V"⟩, prog_2_method_1_code, none),
  (⟨"Buildmill$Action", "start", "(LBuildmill$Target;II)V"⟩, prog_2_method_2_code, none),
  (⟨"Buildmill$Action", "addInput", "(I)V"⟩, prog_2_method_3_code, none),
  (⟨"Buildmill$Action", "addPaths", "(J)V"⟩, prog_2_method_4_code, none),
  (⟨"Buildmill$Action", "inputAt", "(I)I"⟩, prog_2_method_5_code, (some (.int))),
  (⟨"Buildmill$Action", "actionInput", "(I)I"⟩, prog_2_method_6_code, (some (.int))),
  (⟨"Buildmill$Action", "isSameAs", "(LBuildmill$Action;)Z"⟩, prog_2_method_7_code, (some (.boolean))),
  (⟨"Buildmill$Action", "takeWork", "(LBuildmill$Target;)V"⟩, prog_2_method_8_code, none),
  (⟨"Buildmill$Action", "forgetBuild", "()V"⟩, prog_2_method_9_code, none),
  (⟨"Buildmill$Action", "rest", "()V"⟩, prog_2_method_10_code, none),
  (⟨"Buildmill$Action", "isDone", "()Z"⟩, prog_2_method_11_code, (some (.boolean))),
  (⟨"Buildmill$Action", "isUnderWay", "()Z"⟩, prog_2_method_12_code, (some (.boolean))),
  (⟨"Buildmill$Action", "nextEnd", "()I"⟩, prog_2_method_13_code, (some (.int))),
  (⟨"Buildmill$Action", "finish", "(II)V"⟩, prog_2_method_14_code, none),
  (⟨"Buildmill$Action", "tell", "(I)I"⟩, prog_2_method_15_code, (some (.int))),
  (⟨"Buildmill$Cache", "<init>", "(I)V"⟩, prog_3_method_1_code, none),
  (⟨"Buildmill$Cache", "placeOf", "(LBuildmill$Entry;)I"⟩, prog_3_method_2_code, (some (.int))),
  (⟨"Buildmill$Cache", "putEntry", "(LBuildmill$Entry;)V"⟩, prog_3_method_3_code, none),
  (⟨"Buildmill$Cache", "makeLatest", "(ILBuildmill$Entry;)V"⟩, prog_3_method_4_code, none),
  (⟨"Buildmill$Cache", "clear", "()I"⟩, prog_3_method_5_code, (some (.int))),
  (⟨"Buildmill$Cache", "hasBytes", "(I)Z"⟩, prog_3_method_6_code, (some (.boolean))),
  (⟨"Buildmill$Cache", "takeBytes", "(I)V"⟩, prog_3_method_7_code, none),
  (⟨"Buildmill$Cache", "loseBytes", "(I)Z"⟩, prog_3_method_8_code, (some (.boolean))),
  (⟨"Buildmill$Crew", "<init>", "()V"⟩, prog_4_method_1_code, none),
  (⟨"Buildmill$Crew", "resize", "(II)I"⟩, prog_4_method_2_code, (some (.int))),
  (⟨"Buildmill$Crew", "pick", "(II)I"⟩, prog_4_method_3_code, (some (.int))),
  (⟨"Buildmill$Crew", "isWarm", "(II)Z"⟩, prog_4_method_4_code, (some (.boolean))),
  (⟨"Buildmill$Crew", "isBusy", "(I)Z"⟩, prog_4_method_5_code, (some (.boolean))),
  (⟨"Buildmill$Crew", "take", "(I)V"⟩, prog_4_method_6_code, none),
  (⟨"Buildmill$Crew", "release", "(II)V"⟩, prog_4_method_7_code, none),
  (⟨"Buildmill$Disk", "<init>", "()V"⟩, prog_5_method_1_code, none),
  (⟨"Buildmill$Disk", "contentAt", "(I)I"⟩, prog_5_method_2_code, (some (.int))),
  (⟨"Buildmill$Disk", "replace", "(II)I"⟩, prog_5_method_3_code, (some (.int))),
  (⟨"Buildmill$Disk", "isPackage", "(I)Z"⟩, prog_5_method_4_code, (some (.boolean))),
  (⟨"Buildmill$Disk", "makePackage", "(IZ)Z"⟩, prog_5_method_5_code, (some (.boolean))),
  (⟨"Buildmill$Disk", "ownerOf", "(I)I"⟩, prog_5_method_6_code, (some (.int))),
  (⟨"Buildmill$Disk", "globPaths", "(IIZ)J"⟩, prog_5_method_7_code, (some (.long))),
  (⟨"Buildmill$Entry", "<init>", "()V"⟩, prog_6_method_1_code, none),
  (⟨"Buildmill$Entry", "start", "(III)V"⟩, prog_6_method_2_code, none),
  (⟨"Buildmill$Entry", "foundAt", "(I)I"⟩, prog_6_method_3_code, (some (.int)))]
noncomputable def bYs1 : List (MethodName × ByteArray × Option FieldType) := [(⟨"Buildmill$Entry", "perform", "(LBuildmill$Disk;I)V"⟩, prog_6_method_4_code, none),
  (⟨"Buildmill$Entry", "lookAround", "(LBuildmill$Disk;I)I"⟩, prog_6_method_5_code, (some (.int))),
  (⟨"Buildmill$Entry", "note", "(I)V"⟩, prog_6_method_6_code, none),
  (⟨"Buildmill$Entry", "isAlike", "(LBuildmill$Entry;)Z"⟩, prog_6_method_7_code, (some (.boolean))),
  (⟨"Buildmill$Entry", "copy", "(LBuildmill$Entry;)V"⟩, prog_6_method_8_code, none),
  (⟨"Buildmill$Mill", "<init>", "(LBuildmill$Disk;LBuildmill$Plan;)V"⟩, prog_7_method_1_code, none),
  (⟨"Buildmill$Mill", "run", "(IZI)I"⟩, prog_7_method_2_code, (some (.int))),
  (⟨"Buildmill$Mill", "forgetLast", "()V"⟩, prog_7_method_3_code, none),
  (⟨"Buildmill$Mill", "takeFileBytes", "()V"⟩, prog_7_method_4_code, none),
  (⟨"Buildmill$Mill", "weigh", "()V"⟩, prog_7_method_5_code, none),
  (⟨"Buildmill$Mill", "passTime", "(ZI)V"⟩, prog_7_method_6_code, none),
  (⟨"Buildmill$Mill", "nextEnd", "()I"⟩, prog_7_method_7_code, (some (.int))),
  (⟨"Buildmill$Mill", "endThose", "(Z)V"⟩, prog_7_method_8_code, none),
  (⟨"Buildmill$Mill", "endRun", "(LBuildmill$Action;Z)V"⟩, prog_7_method_9_code, none),
  (⟨"Buildmill$Mill", "count", "(II)V"⟩, prog_7_method_10_code, none),
  (⟨"Buildmill$Mill", "cancelRest", "()V"⟩, prog_7_method_11_code, none),
  (⟨"Buildmill$Mill", "beginThose", "()V"⟩, prog_7_method_12_code, none),
  (⟨"Buildmill$Mill", "nextToBegin", "()I"⟩, prog_7_method_13_code, (some (.int))),
  (⟨"Buildmill$Mill", "isReady", "(LBuildmill$Action;)Z"⟩, prog_7_method_14_code, (some (.boolean))),
  (⟨"Buildmill$Mill", "prepare", "(LBuildmill$Action;)V"⟩, prog_7_method_15_code, none),
  (⟨"Buildmill$Mill", "begin", "(LBuildmill$Action;I)V"⟩, prog_7_method_16_code, none),
  (⟨"Buildmill$Mill", "beginRun", "(LBuildmill$Action;I)V"⟩, prog_7_method_17_code, none),
  (⟨"Buildmill$Mill", "bringBytes", "(I)I"⟩, prog_7_method_18_code, (some (.int))),
  (⟨"Buildmill$Mill", "countOutcomes", "()V"⟩, prog_7_method_19_code, none),
  (⟨"Buildmill$Mill", "criticalAt", "(I)I"⟩, prog_7_method_20_code, (some (.int))),
  (⟨"Buildmill$Mill", "lastOfAll", "()I"⟩, prog_7_method_21_code, (some (.int))),
  (⟨"Buildmill$Mill", "lastInput", "(LBuildmill$Action;)I"⟩, prog_7_method_22_code, (some (.int))),
  (⟨"Buildmill$Plan", "<init>", "(LBuildmill$Disk;LBuildmill$Rules;LBuildmill$Tools;LBuildmill$Targets;)V"⟩, prog_8_method_1_code, none),
  (⟨"Buildmill$Plan", "takeRuleNumbers", "()V"⟩, prog_8_method_2_code, none),
  (⟨"Buildmill$Plan", "nodeOf", "(I)I"⟩, prog_8_method_3_code, (some (.int))),
  (⟨"Buildmill$Plan", "startWalk", "()V"⟩, prog_8_method_4_code, none),
  (⟨"Buildmill$Plan", "walk", "(I)V"⟩, prog_8_method_5_code, none),
  (⟨"Buildmill$Plan", "enter", "(I)V"⟩, prog_8_method_6_code, none),
  (⟨"Buildmill$Plan", "itemNode", "(LBuildmill$Target;II)I"⟩, prog_8_method_7_code, (some (.int))),
  (⟨"Buildmill$Plan", "faultOf", "(LBuildmill$Target;I)I"⟩, prog_8_method_8_code, (some (.int))),
  (⟨"Buildmill$Plan", "versionOf", "(LBuildmill$Target;I)I"⟩, prog_8_method_9_code, (some (.int))),
  (⟨"Buildmill$Plan", "itemFault", "(LBuildmill$Target;II)I"⟩, prog_8_method_10_code, (some (.int))),
  (⟨"Buildmill$Plan", "globOf", "(LBuildmill$Target;I)J"⟩, prog_8_method_11_code, (some (.long))),
  (⟨"Buildmill$Plan", "errorOf", "(II)I"⟩, prog_8_method_12_code, (some (.int))),
  (⟨"Buildmill$Plan", "soundAmong", "(I)I"⟩, prog_8_method_13_code, (some (.int)))]
noncomputable def bYs2 : List (MethodName × ByteArray × Option FieldType) := [(⟨"Buildmill$Plan", "findActions", "(I)Z"⟩, prog_8_method_14_code, (some (.boolean))),
  (⟨"Buildmill$Plan", "markWanted", "()V"⟩, prog_8_method_15_code, none),
  (⟨"Buildmill$Plan", "actionMadeFor", "(I)LBuildmill$Action;"⟩, prog_8_method_16_code, (some (.object "Buildmill$Action"))),
  (⟨"Buildmill$Plan", "knownAction", "(I)I"⟩, prog_8_method_17_code, (some (.int))),
  (⟨"Buildmill$Plan", "contentFromNothing", "(I)I"⟩, prog_8_method_18_code, (some (.int))),
  (⟨"Buildmill$Plan", "contentNow", "(LBuildmill$Action;)I"⟩, prog_8_method_19_code, (some (.int))),
  (⟨"Buildmill$Plan", "describe", "(I)Z"⟩, prog_8_method_20_code, (some (.boolean))),
  (⟨"Buildmill$Plan", "candidate", "()LBuildmill$Action;"⟩, prog_8_method_21_code, (some (.object "Buildmill$Action"))),
  (⟨"Buildmill$Plan", "firstAlike", "()I"⟩, prog_8_method_22_code, (some (.int))),
  (⟨"Buildmill$Plan", "actionAt", "(I)LBuildmill$Action;"⟩, prog_8_method_23_code, (some (.object "Buildmill$Action"))),
  (⟨"Buildmill$Rules", "<init>", "()V"⟩, prog_9_method_1_code, none),
  (⟨"Buildmill$Rules", "size", "(I)I"⟩, prog_9_method_2_code, (some (.int))),
  (⟨"Buildmill$Rules", "append", "(IIIII)I"⟩, prog_9_method_3_code, (some (.int))),
  (⟨"Buildmill$Rules", "remove", "(II)I"⟩, prog_9_method_4_code, (some (.int))),
  (⟨"Buildmill$Rules", "resize", "(II)I"⟩, prog_9_method_5_code, (some (.int))),
  (⟨"Buildmill$Rules", "valueOf", "(II)I"⟩, prog_9_method_6_code, (some (.int))),
  (⟨"Buildmill$Rules", "numberOf", "(II)I"⟩, prog_9_method_7_code, (some (.int))),
  (⟨"Buildmill$Rules", "numberInList", "(III)I"⟩, prog_9_method_8_code, (some (.int))),
  (⟨"Buildmill$Rules", "failure", "(II)I"⟩, prog_9_method_9_code, (some (.int))),
  (⟨"Buildmill$Rules", "result", "(II)I"⟩, prog_9_method_10_code, (some (.int))),
  (⟨"Buildmill$Rules", "thing", "(II)I"⟩, prog_9_method_11_code, (some (.int))),
  (⟨"Buildmill$Rules", "evaluate", "(I)V"⟩, prog_9_method_12_code, none),
  (⟨"Buildmill$Rules", "enter", "(I)V"⟩, prog_9_method_13_code, none),
  (⟨"Buildmill$Rules", "goOn", "(I)V"⟩, prog_9_method_14_code, none),
  (⟨"Buildmill$Rules", "whyFailing", "(II)I"⟩, prog_9_method_15_code, (some (.int))),
  (⟨"Buildmill$Rules", "whyNotPushed", "(III)I"⟩, prog_9_method_16_code, (some (.int))),
  (⟨"Buildmill$Rules", "perform", "(II)V"⟩, prog_9_method_17_code, none),
  (⟨"Buildmill$Rules", "makeList", "(I)I"⟩, prog_9_method_18_code, (some (.int))),
  (⟨"Buildmill$Rules", "push", "(II)V"⟩, prog_9_method_19_code, none),
  (⟨"Buildmill$Target", "<init>", "(III)V"⟩, prog_10_method_1_code, none),
  (⟨"Buildmill$Target", "addItem", "(I)I"⟩, prog_10_method_2_code, (some (.int))),
  (⟨"Buildmill$Target", "dropItem", "()I"⟩, prog_10_method_3_code, (some (.int))),
  (⟨"Buildmill$Target", "itemAt", "(I)I"⟩, prog_10_method_4_code, (some (.int))),
  (⟨"Buildmill$Target", "addCondition", "(III)I"⟩, prog_10_method_5_code, (some (.int))),
  (⟨"Buildmill$Target", "setTransition", "(II)V"⟩, prog_10_method_6_code, none),
  (⟨"Buildmill$Target", "setWork", "(IIZ)V"⟩, prog_10_method_7_code, none),
  (⟨"Buildmill$Target", "numberIn", "(I)I"⟩, prog_10_method_8_code, (some (.int))),
  (⟨"Buildmill$Target", "below", "(I)I"⟩, prog_10_method_9_code, (some (.int))),
  (⟨"Buildmill$Target", "noteTrial", "(I)Z"⟩, prog_10_method_10_code, (some (.boolean))),
  (⟨"Buildmill$Targets", "<init>", "()V"⟩, prog_11_method_1_code, none)]
noncomputable def bYs3 : List (MethodName × ByteArray × Option FieldType) := [(⟨"Buildmill$Targets", "at", "(I)LBuildmill$Target;"⟩, prog_11_method_2_code, (some (.object "Buildmill$Target"))),
  (⟨"Buildmill$Targets", "append", "(III)I"⟩, prog_11_method_3_code, (some (.int))),
  (⟨"Buildmill$Targets", "itemTargets", "(I)I"⟩, prog_11_method_4_code, (some (.int))),
  (⟨"Buildmill$Targets", "under", "(I)I"⟩, prog_11_method_5_code, (some (.int))),
  (⟨"Buildmill$Targets", "over", "(I)I"⟩, prog_11_method_6_code, (some (.int))),
  (⟨"Buildmill$Targets", "onShortestWay", "(III)I"⟩, prog_11_method_7_code, (some (.int))),
  (⟨"Buildmill$Targets", "measure", "(I)V"⟩, prog_11_method_8_code, none),
  (⟨"Buildmill$Targets", "firstAt", "(II)I"⟩, prog_11_method_9_code, (some (.int))),
  (⟨"Buildmill$Tools", "<init>", "()V"⟩, prog_12_method_1_code, none),
  (⟨"Buildmill$Tools", "valueIn", "(II)I"⟩, prog_12_method_2_code, (some (.int))),
  (⟨"Buildmill$Tools", "changed", "(III)I"⟩, prog_12_method_3_code, (some (.int))),
  (⟨"Buildmill$Tools", "change", "(II)I"⟩, prog_12_method_4_code, (some (.int))),
  (⟨"Buildmill$Tools", "append", "(IIII)I"⟩, prog_12_method_5_code, (some (.int))),
  (⟨"Buildmill$Tools", "remove", "(I)I"⟩, prog_12_method_6_code, (some (.int))),
  (⟨"Buildmill$Tools", "resolve", "(II)I"⟩, prog_12_method_7_code, (some (.int))),
  (⟨"Buildmill", "<init>", "()V"⟩, prog_1_method_1_code, none),
  (⟨"Buildmill", "needPlace", "(II)V"⟩, prog_1_method_2_code, none),
  (⟨"Buildmill", "needNotBelowZero", "(I)V"⟩, prog_1_method_3_code, none),
  (⟨"Buildmill", "needRange", "(III)V"⟩, prog_1_method_4_code, none),
  (⟨"Buildmill", "needState", "(Z)V"⟩, prog_1_method_5_code, none),
  (⟨"Buildmill", "read", "([II)I"⟩, prog_1_method_6_code, (some (.int))),
  (⟨"Buildmill", "store", "([III)V"⟩, prog_1_method_7_code, none),
  (⟨"Buildmill", "closeGap", "([III)V"⟩, prog_1_method_8_code, none),
  (⟨"Buildmill", "write", "(II)I"⟩, prog_1_method_9_code, (some (.int))),
  (⟨"Buildmill", "erase", "(I)I"⟩, prog_1_method_10_code, (some (.int))),
  (⟨"Buildmill", "pack", "(IZ)Z"⟩, prog_1_method_11_code, (some (.boolean))),
  (⟨"Buildmill", "packageOf", "(I)I"⟩, prog_1_method_12_code, (some (.int))),
  (⟨"Buildmill", "globbed", "(IIZ)J"⟩, prog_1_method_13_code, (some (.long))),
  (⟨"Buildmill", "state", "(IIIII)I"⟩, prog_1_method_14_code, (some (.int))),
  (⟨"Buildmill", "unstate", "(II)I"⟩, prog_1_method_15_code, (some (.int))),
  (⟨"Buildmill", "value", "(II)I"⟩, prog_1_method_16_code, (some (.int))),
  (⟨"Buildmill", "listAt", "(III)I"⟩, prog_1_method_17_code, (some (.int))),
  (⟨"Buildmill", "ruleFailure", "(II)I"⟩, prog_1_method_18_code, (some (.int))),
  (⟨"Buildmill", "setting", "(II)I"⟩, prog_1_method_19_code, (some (.int))),
  (⟨"Buildmill", "toolchain", "(IIII)I"⟩, prog_1_method_20_code, (some (.int))),
  (⟨"Buildmill", "untool", "(I)I"⟩, prog_1_method_21_code, (some (.int))),
  (⟨"Buildmill", "target", "(III)I"⟩, prog_1_method_22_code, (some (.int))),
  (⟨"Buildmill", "numberFrom", "(III)V"⟩, prog_1_method_23_code, none),
  (⟨"Buildmill", "choose", "(IIII)I"⟩, prog_1_method_24_code, (some (.int))),
  (⟨"Buildmill", "source", "(II)I"⟩, prog_1_method_25_code, (some (.int)))]
noncomputable def bYs4 : List (MethodName × ByteArray × Option FieldType) := [(⟨"Buildmill", "glob", "(IIZ)I"⟩, prog_1_method_26_code, (some (.int))),
  (⟨"Buildmill", "depend", "(II)I"⟩, prog_1_method_27_code, (some (.int))),
  (⟨"Buildmill", "drop", "(I)I"⟩, prog_1_method_28_code, (some (.int))),
  (⟨"Buildmill", "uses", "(II)I"⟩, prog_1_method_29_code, (some (.int))),
  (⟨"Buildmill", "transit", "(III)V"⟩, prog_1_method_30_code, none),
  (⟨"Buildmill", "work", "(IIIZ)V"⟩, prog_1_method_31_code, none),
  (⟨"Buildmill", "shards", "(III)V"⟩, prog_1_method_32_code, none),
  (⟨"Buildmill", "targetError", "(II)I"⟩, prog_1_method_33_code, (some (.int))),
  (⟨"Buildmill", "workers", "(II)I"⟩, prog_1_method_34_code, (some (.int))),
  (⟨"Buildmill", "sandbox", "(Z)Z"⟩, prog_1_method_35_code, (some (.boolean))),
  (⟨"Buildmill", "far", "(ZI)Z"⟩, prog_1_method_36_code, (some (.boolean))),
  (⟨"Buildmill", "lose", "(I)Z"⟩, prog_1_method_37_code, (some (.boolean))),
  (⟨"Buildmill", "forget", "(Z)I"⟩, prog_1_method_38_code, (some (.int))),
  (⟨"Buildmill", "entries", "(Z)I"⟩, prog_1_method_39_code, (some (.int))),
  (⟨"Buildmill", "build", "(IZI)I"⟩, prog_1_method_40_code, (some (.int))),
  (⟨"Buildmill", "told", "(I)I"⟩, prog_1_method_41_code, (some (.int))),
  (⟨"Buildmill", "failedFirst", "()I"⟩, prog_1_method_42_code, (some (.int))),
  (⟨"Buildmill", "critical", "(I)I"⟩, prog_1_method_43_code, (some (.int))),
  (⟨"Buildmill", "actions", "()I"⟩, prog_1_method_44_code, (some (.int))),
  (⟨"Buildmill", "actionOf", "(I)I"⟩, prog_1_method_45_code, (some (.int))),
  (⟨"Buildmill", "input", "(II)I"⟩, prog_1_method_46_code, (some (.int))),
  (⟨"Buildmill", "became", "(II)I"⟩, prog_1_method_47_code, (some (.int))),
  (⟨"Buildmill", "found", "(II)I"⟩, prog_1_method_48_code, (some (.int))),
  (⟨"Buildmill", "output", "(I)I"⟩, prog_1_method_49_code, (some (.int))),
  (⟨"Buildmill", "outputFromNothing", "(I)I"⟩, prog_1_method_50_code, (some (.int))),
  (⟨"Buildmill", "test", "(I)I"⟩, prog_1_method_51_code, (some (.int))),
  (⟨"Buildmill", "goThroughShards", "(LBuildmill$Target;I)I"⟩, prog_1_method_52_code, (some (.int))),
  (⟨"Buildmill", "tryOnce", "(LBuildmill$Target;IZ)I"⟩, prog_1_method_53_code, (some (.int))),
  (⟨"Buildmill", "tryLuck", "(IZ)I"⟩, prog_1_method_54_code, (some (.int))),
  (⟨"Buildmill", "shard", "(II)I"⟩, prog_1_method_55_code, (some (.int))),
  (⟨"Buildmill", "tries", "()I"⟩, prog_1_method_56_code, (some (.int))),
  (⟨"Buildmill", "seed", "(I)V"⟩, prog_1_method_57_code, none),
  (⟨"Buildmill", "someWay", "(III)I"⟩, prog_1_method_58_code, (some (.int))),
  (⟨"Buildmill", "allWays", "(II)I"⟩, prog_1_method_59_code, (some (.int))),
  (⟨"Buildmill", "above", "(I)I"⟩, prog_1_method_60_code, (some (.int))),
  (⟨"BuildmillModel", "<init>", "()V"⟩, prog_14_method_1_code, none),
  (⟨"BuildmillModel", "thrown", "()I"⟩, prog_14_method_2_code, (some (.int))),
  (⟨"BuildmillModel", "refused", "(I)Z"⟩, prog_14_method_3_code, (some (.boolean))),
  (⟨"BuildmillModel", "fine", "(I)I"⟩, prog_14_method_4_code, (some (.int))),
  (⟨"BuildmillModel", "in", "(III)Z"⟩, prog_14_method_5_code, (some (.boolean)))]
noncomputable def bYs5 : List (MethodName × ByteArray × Option FieldType) := [(⟨"BuildmillModel", "isPath", "(I)Z"⟩, prog_14_method_6_code, (some (.boolean))),
  (⟨"BuildmillModel", "isDirectory", "(I)Z"⟩, prog_14_method_7_code, (some (.boolean))),
  (⟨"BuildmillModel", "write", "(II)I"⟩, prog_14_method_8_code, (some (.int))),
  (⟨"BuildmillModel", "erase", "(I)I"⟩, prog_14_method_9_code, (some (.int))),
  (⟨"BuildmillModel", "pack", "(IZ)Z"⟩, prog_14_method_10_code, (some (.boolean))),
  (⟨"BuildmillModel", "outer", "(I)I"⟩, prog_14_method_11_code, (some (.int))),
  (⟨"BuildmillModel", "belongs", "(I)I"⟩, prog_14_method_12_code, (some (.int))),
  (⟨"BuildmillModel", "packageOf", "(I)I"⟩, prog_14_method_13_code, (some (.int))),
  (⟨"BuildmillModel", "finds", "(IIZI)Z"⟩, prog_14_method_14_code, (some (.boolean))),
  (⟨"BuildmillModel", "globbed", "(IIZ)J"⟩, prog_14_method_15_code, (some (.long))),
  (⟨"BuildmillModel", "isRule", "(I)Z"⟩, prog_14_method_16_code, (some (.boolean))),
  (⟨"BuildmillModel", "isName", "(I)Z"⟩, prog_14_method_17_code, (some (.boolean))),
  (⟨"BuildmillModel", "state", "(IIIII)I"⟩, prog_14_method_18_code, (some (.int))),
  (⟨"BuildmillModel", "unstate", "(II)I"⟩, prog_14_method_19_code, (some (.int))),
  (⟨"BuildmillModel", "evaluate", "(I)V"⟩, prog_14_method_20_code, none),
  (⟨"BuildmillModel", "begin", "(I)V"⟩, prog_14_method_21_code, none),
  (⟨"BuildmillModel", "fail", "(III)I"⟩, prog_14_method_22_code, (some (.int))),
  (⟨"BuildmillModel", "give", "(III)V"⟩, prog_14_method_23_code, none),
  (⟨"BuildmillModel", "next", "(I)I"⟩, prog_14_method_24_code, (some (.int))),
  (⟨"BuildmillModel", "value", "(II)I"⟩, prog_14_method_25_code, (some (.int))),
  (⟨"BuildmillModel", "listAt", "(III)I"⟩, prog_14_method_26_code, (some (.int))),
  (⟨"BuildmillModel", "ruleFailure", "(II)I"⟩, prog_14_method_27_code, (some (.int))),
  (⟨"BuildmillModel", "setting", "(II)I"⟩, prog_14_method_28_code, (some (.int))),
  (⟨"BuildmillModel", "toolchain", "(IIII)I"⟩, prog_14_method_29_code, (some (.int))),
  (⟨"BuildmillModel", "untool", "(I)I"⟩, prog_14_method_30_code, (some (.int))),
  (⟨"BuildmillModel", "isTarget", "(I)Z"⟩, prog_14_method_31_code, (some (.boolean))),
  (⟨"BuildmillModel", "target", "(III)I"⟩, prog_14_method_32_code, (some (.int))),
  (⟨"BuildmillModel", "numberFrom", "(III)V"⟩, prog_14_method_33_code, none),
  (⟨"BuildmillModel", "choose", "(IIII)I"⟩, prog_14_method_34_code, (some (.int))),
  (⟨"BuildmillModel", "item", "(IIIZ)I"⟩, prog_14_method_35_code, (some (.int))),
  (⟨"BuildmillModel", "source", "(II)I"⟩, prog_14_method_36_code, (some (.int))),
  (⟨"BuildmillModel", "glob", "(IIZ)I"⟩, prog_14_method_37_code, (some (.int))),
  (⟨"BuildmillModel", "depend", "(II)I"⟩, prog_14_method_38_code, (some (.int))),
  (⟨"BuildmillModel", "drop", "(I)I"⟩, prog_14_method_39_code, (some (.int))),
  (⟨"BuildmillModel", "uses", "(II)I"⟩, prog_14_method_40_code, (some (.int))),
  (⟨"BuildmillModel", "transit", "(III)V"⟩, prog_14_method_41_code, none),
  (⟨"BuildmillModel", "work", "(IIIZ)V"⟩, prog_14_method_42_code, none),
  (⟨"BuildmillModel", "shards", "(III)V"⟩, prog_14_method_43_code, none),
  (⟨"BuildmillModel", "configuration", "()I"⟩, prog_14_method_44_code, (some (.int))),
  (⟨"BuildmillModel", "valueIn", "(II)I"⟩, prog_14_method_45_code, (some (.int)))]
noncomputable def bYs6 : List (MethodName × ByteArray × Option FieldType) := [(⟨"BuildmillModel", "below", "(II)I"⟩, prog_14_method_46_code, (some (.int))),
  (⟨"BuildmillModel", "look", "(I)V"⟩, prog_14_method_47_code, none),
  (⟨"BuildmillModel", "errorOf", "(I)I"⟩, prog_14_method_48_code, (some (.int))),
  (⟨"BuildmillModel", "errorOfItems", "(I)I"⟩, prog_14_method_49_code, (some (.int))),
  (⟨"BuildmillModel", "targetError", "(II)I"⟩, prog_14_method_50_code, (some (.int))),
  (⟨"BuildmillModel", "layInputs", "(I)I"⟩, prog_14_method_51_code, (some (.int))),
  (⟨"BuildmillModel", "sameAction", "(II)I"⟩, prog_14_method_52_code, (some (.int))),
  (⟨"BuildmillModel", "findActions", "()V"⟩, prog_14_method_53_code, none),
  (⟨"BuildmillModel", "actionOf", "(I)I"⟩, prog_14_method_54_code, (some (.int))),
  (⟨"BuildmillModel", "actNow", "(I)I"⟩, prog_14_method_55_code, (some (.int))),
  (⟨"BuildmillModel", "make", "(I)Z"⟩, prog_14_method_56_code, (some (.boolean))),
  (⟨"BuildmillModel", "makeOne", "(I)Z"⟩, prog_14_method_57_code, (some (.boolean))),
  (⟨"BuildmillModel", "actions", "()I"⟩, prog_14_method_58_code, (some (.int))),
  (⟨"BuildmillModel", "isAction", "(I)Z"⟩, prog_14_method_59_code, (some (.boolean))),
  (⟨"BuildmillModel", "input", "(II)I"⟩, prog_14_method_60_code, (some (.int))),
  (⟨"BuildmillModel", "found", "(II)I"⟩, prog_14_method_61_code, (some (.int))),
  (⟨"BuildmillModel", "output", "(I)I"⟩, prog_14_method_62_code, (some (.int))),
  (⟨"BuildmillModel", "isOwn", "(IJI)Z"⟩, prog_14_method_63_code, (some (.boolean))),
  (⟨"BuildmillModel", "seen", "(IJI)I"⟩, prog_14_method_64_code, (some (.int))),
  (⟨"BuildmillModel", "operate", "(IIIIJ)I"⟩, prog_14_method_65_code, (some (.int))),
  (⟨"BuildmillModel", "follow", "(IIJ)I"⟩, prog_14_method_66_code, (some (.int))),
  (⟨"BuildmillModel", "pathsOf", "(I)J"⟩, prog_14_method_67_code, (some (.long))),
  (⟨"BuildmillModel", "contentOf", "(I)I"⟩, prog_14_method_68_code, (some (.int))),
  (⟨"BuildmillModel", "outputFromNothing", "(I)I"⟩, prog_14_method_69_code, (some (.int))),
  (⟨"BuildmillModel", "doneNow", "(I)I"⟩, prog_14_method_70_code, (some (.int))),
  (⟨"BuildmillModel", "hasInputs", "(II)Z"⟩, prog_14_method_71_code, (some (.boolean))),
  (⟨"BuildmillModel", "seesSo", "(II)Z"⟩, prog_14_method_72_code, (some (.boolean))),
  (⟨"BuildmillModel", "fitting", "(IZ)I"⟩, prog_14_method_73_code, (some (.int))),
  (⟨"BuildmillModel", "takeEntry", "(II)V"⟩, prog_14_method_74_code, none),
  (⟨"BuildmillModel", "entryCount", "(Z)I"⟩, prog_14_method_75_code, (some (.int))),
  (⟨"BuildmillModel", "put", "(IZ)V"⟩, prog_14_method_76_code, none),
  (⟨"BuildmillModel", "isFresh", "(I)Z"⟩, prog_14_method_77_code, (some (.boolean))),
  (⟨"BuildmillModel", "keep", "(I)V"⟩, prog_14_method_78_code, none),
  (⟨"BuildmillModel", "sandbox", "(Z)Z"⟩, prog_14_method_79_code, (some (.boolean))),
  (⟨"BuildmillModel", "far", "(ZI)Z"⟩, prog_14_method_80_code, (some (.boolean))),
  (⟨"BuildmillModel", "lose", "(I)Z"⟩, prog_14_method_81_code, (some (.boolean))),
  (⟨"BuildmillModel", "forget", "(Z)I"⟩, prog_14_method_82_code, (some (.int))),
  (⟨"BuildmillModel", "entries", "(Z)I"⟩, prog_14_method_83_code, (some (.int))),
  (⟨"BuildmillModel", "workers", "(II)I"⟩, prog_14_method_84_code, (some (.int))),
  (⟨"BuildmillModel", "workerFor", "(I)I"⟩, prog_14_method_85_code, (some (.int)))]
noncomputable def bYs7 : List (MethodName × ByteArray × Option FieldType) := [(⟨"BuildmillModel", "forgetBuild", "()V"⟩, prog_14_method_86_code, none),
  (⟨"BuildmillModel", "isDone", "(I)Z"⟩, prog_14_method_87_code, (some (.boolean))),
  (⟨"BuildmillModel", "isGoing", "(I)Z"⟩, prog_14_method_88_code, (some (.boolean))),
  (⟨"BuildmillModel", "findAll", "(I)Z"⟩, prog_14_method_89_code, (some (.boolean))),
  (⟨"BuildmillModel", "hasError", "(I)Z"⟩, prog_14_method_90_code, (some (.boolean))),
  (⟨"BuildmillModel", "build", "(IZI)I"⟩, prog_14_method_91_code, (some (.int))),
  (⟨"BuildmillModel", "buildAll", "(IZZI)I"⟩, prog_14_method_92_code, (some (.int))),
  (⟨"BuildmillModel", "want", "(I)V"⟩, prog_14_method_93_code, none),
  (⟨"BuildmillModel", "simulate", "(ZI)V"⟩, prog_14_method_94_code, none),
  (⟨"BuildmillModel", "sooner", "(II)I"⟩, prog_14_method_95_code, (some (.int))),
  (⟨"BuildmillModel", "cancelAll", "()V"⟩, prog_14_method_96_code, none),
  (⟨"BuildmillModel", "leave", "(II)V"⟩, prog_14_method_97_code, none),
  (⟨"BuildmillModel", "nextOne", "()I"⟩, prog_14_method_98_code, (some (.int))),
  (⟨"BuildmillModel", "canBegin", "(I)Z"⟩, prog_14_method_99_code, (some (.boolean))),
  (⟨"BuildmillModel", "start", "(I)V"⟩, prog_14_method_100_code, none),
  (⟨"BuildmillModel", "doneAt", "(II)V"⟩, prog_14_method_101_code, none),
  (⟨"BuildmillModel", "run", "(I)V"⟩, prog_14_method_102_code, none),
  (⟨"BuildmillModel", "bytesFor", "(I)I"⟩, prog_14_method_103_code, (some (.int))),
  (⟨"BuildmillModel", "finish", "(IZ)V"⟩, prog_14_method_104_code, none),
  (⟨"BuildmillModel", "told", "(I)I"⟩, prog_14_method_105_code, (some (.int))),
  (⟨"BuildmillModel", "failedFirst", "()I"⟩, prog_14_method_106_code, (some (.int))),
  (⟨"BuildmillModel", "hasEnded", "(I)Z"⟩, prog_14_method_107_code, (some (.boolean))),
  (⟨"BuildmillModel", "critical", "(I)I"⟩, prog_14_method_108_code, (some (.int))),
  (⟨"BuildmillModel", "became", "(II)I"⟩, prog_14_method_109_code, (some (.int))),
  (⟨"BuildmillModel", "test", "(I)I"⟩, prog_14_method_110_code, (some (.int))),
  (⟨"BuildmillModel", "shardOf", "(III)I"⟩, prog_14_method_111_code, (some (.int))),
  (⟨"BuildmillModel", "shard", "(II)I"⟩, prog_14_method_112_code, (some (.int))),
  (⟨"BuildmillModel", "tries", "()I"⟩, prog_14_method_113_code, (some (.int))),
  (⟨"BuildmillModel", "seed", "(I)V"⟩, prog_14_method_114_code, none),
  (⟨"BuildmillModel", "measure", "(I)V"⟩, prog_14_method_115_code, none),
  (⟨"BuildmillModel", "someWay", "(III)I"⟩, prog_14_method_116_code, (some (.int))),
  (⟨"BuildmillModel", "belowOf", "(I)I"⟩, prog_14_method_117_code, (some (.int))),
  (⟨"BuildmillModel", "allWays", "(II)I"⟩, prog_14_method_118_code, (some (.int))),
  (⟨"BuildmillModel", "above", "(I)I"⟩, prog_14_method_119_code, (some (.int))),
  (⟨"BuildmillLaw", "write", "(LBuildmill;II[J)I"⟩, method_3_code, (some (.int))),
  (⟨"BuildmillLaw", "erase", "(LBuildmill;I[J)I"⟩, method_4_code, (some (.int))),
  (⟨"BuildmillLaw", "pack", "(LBuildmill;IZ[J)I"⟩, method_5_code, (some (.int))),
  (⟨"BuildmillLaw", "packageOf", "(LBuildmill;I[J)I"⟩, method_6_code, (some (.int))),
  (⟨"BuildmillLaw", "globbed", "(LBuildmill;IIZ[J)I"⟩, method_7_code, (some (.int))),
  (⟨"BuildmillLaw", "state", "(LBuildmill;IIIII[J)I"⟩, method_8_code, (some (.int)))]
noncomputable def bYs8 : List (MethodName × ByteArray × Option FieldType) := [(⟨"BuildmillLaw", "unstate", "(LBuildmill;II[J)I"⟩, method_9_code, (some (.int))),
  (⟨"BuildmillLaw", "value", "(LBuildmill;II[J)I"⟩, method_10_code, (some (.int))),
  (⟨"BuildmillLaw", "listAt", "(LBuildmill;III[J)I"⟩, method_11_code, (some (.int))),
  (⟨"BuildmillLaw", "ruleFailure", "(LBuildmill;II[J)I"⟩, method_12_code, (some (.int))),
  (⟨"BuildmillLaw", "setting", "(LBuildmill;II[J)I"⟩, method_13_code, (some (.int))),
  (⟨"BuildmillLaw", "toolchain", "(LBuildmill;IIII[J)I"⟩, method_14_code, (some (.int))),
  (⟨"BuildmillLaw", "untool", "(LBuildmill;I[J)I"⟩, method_15_code, (some (.int))),
  (⟨"BuildmillLaw", "target", "(LBuildmill;III[J)I"⟩, method_16_code, (some (.int))),
  (⟨"BuildmillLaw", "numberFrom", "(LBuildmill;III)I"⟩, method_17_code, (some (.int))),
  (⟨"BuildmillLaw", "choose", "(LBuildmill;IIII[J)I"⟩, method_18_code, (some (.int))),
  (⟨"BuildmillLaw", "source", "(LBuildmill;II[J)I"⟩, method_19_code, (some (.int))),
  (⟨"BuildmillLaw", "glob", "(LBuildmill;IIZ[J)I"⟩, method_20_code, (some (.int))),
  (⟨"BuildmillLaw", "depend", "(LBuildmill;II[J)I"⟩, method_21_code, (some (.int))),
  (⟨"BuildmillLaw", "drop", "(LBuildmill;I[J)I"⟩, method_22_code, (some (.int))),
  (⟨"BuildmillLaw", "uses", "(LBuildmill;II[J)I"⟩, method_23_code, (some (.int))),
  (⟨"BuildmillLaw", "transit", "(LBuildmill;III)I"⟩, method_24_code, (some (.int))),
  (⟨"BuildmillLaw", "work", "(LBuildmill;IIIZ)I"⟩, method_25_code, (some (.int))),
  (⟨"BuildmillLaw", "shards", "(LBuildmill;III)I"⟩, method_26_code, (some (.int))),
  (⟨"BuildmillLaw", "targetError", "(LBuildmill;II[J)I"⟩, method_27_code, (some (.int))),
  (⟨"BuildmillLaw", "workers", "(LBuildmill;II[J)I"⟩, method_28_code, (some (.int))),
  (⟨"BuildmillLaw", "far", "(LBuildmill;ZI[J)I"⟩, method_29_code, (some (.int))),
  (⟨"BuildmillLaw", "lose", "(LBuildmill;I[J)I"⟩, method_30_code, (some (.int))),
  (⟨"BuildmillLaw", "build", "(LBuildmill;IZI[J)I"⟩, method_31_code, (some (.int))),
  (⟨"BuildmillLaw", "told", "(LBuildmill;I[J)I"⟩, method_32_code, (some (.int))),
  (⟨"BuildmillLaw", "critical", "(LBuildmill;I[J)I"⟩, method_33_code, (some (.int))),
  (⟨"BuildmillLaw", "actionOf", "(LBuildmill;I[J)I"⟩, method_34_code, (some (.int))),
  (⟨"BuildmillLaw", "input", "(LBuildmill;II[J)I"⟩, method_35_code, (some (.int))),
  (⟨"BuildmillLaw", "became", "(LBuildmill;II[J)I"⟩, method_36_code, (some (.int))),
  (⟨"BuildmillLaw", "found", "(LBuildmill;II[J)I"⟩, method_37_code, (some (.int))),
  (⟨"BuildmillLaw", "output", "(LBuildmill;I[J)I"⟩, method_38_code, (some (.int))),
  (⟨"BuildmillLaw", "outputFromNothing", "(LBuildmill;I[J)I"⟩, method_39_code, (some (.int))),
  (⟨"BuildmillLaw", "test", "(LBuildmill;I[J)I"⟩, method_40_code, (some (.int))),
  (⟨"BuildmillLaw", "shard", "(LBuildmill;II[J)I"⟩, method_41_code, (some (.int))),
  (⟨"BuildmillLaw", "seed", "(LBuildmill;I)I"⟩, method_42_code, (some (.int))),
  (⟨"BuildmillLaw", "someWay", "(LBuildmill;III[J)I"⟩, method_43_code, (some (.int))),
  (⟨"BuildmillLaw", "allWays", "(LBuildmill;II[J)I"⟩, method_44_code, (some (.int))),
  (⟨"BuildmillLaw", "above", "(LBuildmill;I[J)I"⟩, method_45_code, (some (.int))),
  (⟨"BuildmillLaw", "law", "([I)Z"⟩, code, (some (.boolean))),
  (⟨"java/lang/Long", "bitCount", "(J)I"⟩, prog_19_method_50_code, (some (.int))),
  (⟨"java/lang/Math", "max", "(II)I"⟩, prog_20_method_65_code, (some (.int)))]
noncomputable def bYs9 : List (MethodName × ByteArray × Option FieldType) := [(⟨"java/lang/Math", "min", "(II)I"⟩, prog_20_method_69_code, (some (.int))),
  (⟨"java/util/Arrays", "fill", "([II)V"⟩, prog_24_method_103_code, none)]
noncomputable def bYss : List (List (MethodName × ByteArray × Option FieldType)) := [bYs0, bYs1, bYs2, bYs3, bYs4, bYs5, bYs6, bYs7, bYs8, bYs9]
noncomputable def bYt (n : Nat) : MethodName × ByteArray × Option FieldType := bnth (bnth bYss (n / 40) []) (n % 40) (⟨"", "", ""⟩, ByteArray.empty, none)
noncomputable def bTb (k : Nat) : List Cond := bnth [k2_sels lw_privs, tables_1_1, tables_1_2, tables_1_3, tables_1_4, tables_1_5, tables_1_6, tables_1_7, tables_1_8, tables_1_9, tables_1_10] k []
def bCe : List Nat := [15, 23, 30, 37, 45, 67, 90, 109, 119, 128, 135, 195, 314, 358]
def bCiGo : Nat → List Nat → Nat → Nat
  | _, [], k => k
  | n, e :: l, k => bif Nat.blt n e then k else bCiGo n l (k + 1)
/-- the number of a method's class -/
def bCi (n : Nat) : Nat := bCiGo n bCe 0
/-! WHAT IS DECIDED OF THE CODE ROWS: they are what the bytes decode to, they go on where they say, their words are in the tables -/
noncomputable def bWat (q : Nat × Nat) : Option Cond := (bTb q.1)[q.2]?
def bLk (tgt : Nat) (own : String) (i : Nat) (y : MethodName) : Cond := if tgt = 1 then .methodLinkNest own i y "Buildmill" else .methodLink own i y
noncomputable def bNd (own : String) (e : bE) : List Cond := match e with
  | (_, ins, _, _, tgt, aux, sw) => match ins, aux with
    | .getfield i, [ci, k, _, _, _, _] => [.fieldLink own i (bCn ci) (bFn ci k).2.1 (bFn ci k).2.2.1]
    | .putfield i, [ci, k, _, _, _, _] => [.fieldLink own i (bCn ci) (bFn ci k).2.1 (bFn ci k).2.2.1]
    | .getstatic i, _ => [.fieldLink own i "Buildmill$Disk" "PARENTS" "[I"]
    | .ldc i, _ => [.constant own i (bnth sw 0 (0, 0)).1]
    | .ldc_w i, _ => [.constant own i (bnth sw 0 (0, 0)).1]
    | .ldc2_w i, _ => [.constantLong own i (Int64.ofNat (bnth aux 0 0))]
    | .new _, [1, _, _, _, _] => []
    | .new i, [_, ci, n, _, _] => [.classLink own i (bCn ci), .instantiable (bCn ci) n, .initialized (bCn ci)]
    | .newarray .int, _ => [.arrayClass .int]
    | .newarray .boolean, _ => [.arrayClass .boolean]
    | .newarray .long, _ => [.arrayClass .long]
    | .anewarray i, k :: _ => [.classLink own i (bCn (bTy k - 10)), .arrayOver (.object (bCn (bTy k - 10)))]
    | .invokevirtual i, [0, ci, mi, _] => [bLk tgt own i (bYt mi).1, .instanceMethod (bYt mi).1, .selects (bCn ci) (bYt mi).1 (bYt mi).1, .initialized (bYt mi).1.cls]
    | .invokestatic i, [2, mi, _] => [bLk tgt own i (bYt mi).1, .static (bYt mi).1, .initialized (bYt mi).1.cls]
    | .invokespecial i, [4, _, mi, _] => [bLk tgt own i (bYt mi).1, .instanceMethod (bYt mi).1, .initialized (bYt mi).1.cls]
    | .invokespecial i, [6, _, _] => [.methodLink own i objectInit, .instanceMethod objectInit, .code objectInit ⟨#[0xb1]⟩ 1 none]
    | .invokestatic i, [7, _, _] => [.methodLink own i arraycopyName, .native arraycopyName, .static arraycopyName, .initialized "java/lang/System"]
    | _, _ => []
def bSwOk (M : bM) (pc : Nat) (lo : Int) : Nat → List (Int32 × Nat) → List Int → Bool
  | _, [], [] => true
  | j, q :: l, o :: r => decide (q.1.toInt = lo + j) && decide ((pc : Int) + o = ((bRow M q.2).1 : Int)) && bSwOk M pc lo (j + 1) l r
  | _, _, _ => false
def bPlain (y : MethodName) (n : Nat) : Bool := decide (y.cls ≠ "java/lang/invoke/MethodHandle" ∧ y.cls ≠ "java/lang/invoke/VarHandle" ∧ (parseMethodDescriptor y.desc).map (fun d => d.parameters.length) = some n)
def bRtc (r : Option FieldType) : Nat := match r with
  | none => 0
  | some .int => 1
  | some .boolean => 2
  | some .long => 3
  | some (.object _) => 4
  | some (.array _) => 4
  | some _ => 9
noncomputable def bStr (n : Nat) (M : bM) (e : bE) : Bool := match e with
  | (pc, ins, len, nxt, tgt, aux, sw) =>
    (fun (ft : Bool) (a0 : Nat) (s0 : Int32) (nL : Nat) => match ins with
    | .iload k => ft && Nat.beq len 2 && Nat.beq a0 k
    | .lload k => ft && Nat.beq len 2 && Nat.beq a0 k
    | .aload k => ft && Nat.beq len 2 && Nat.beq a0 k
    | .iload_n k => ft && Nat.beq len 1 && Nat.beq a0 k.val
    | .lload_n k => ft && Nat.beq len 1 && Nat.beq a0 k.val
    | .aload_n k => ft && Nat.beq len 1 && Nat.beq a0 k.val
    | .istore k => ft && Nat.beq len 2 && Nat.beq a0 k && Nat.blt k nL
    | .astore k => ft && Nat.beq len 2 && Nat.beq a0 k && Nat.blt k nL
    | .lstore k => ft && Nat.beq len 2 && Nat.beq a0 k && Nat.blt (k + 1) nL
    | .istore_n k => ft && Nat.beq len 1 && Nat.beq a0 k.val && Nat.blt k.val nL
    | .astore_n k => ft && Nat.beq len 1 && Nat.beq a0 k.val && Nat.blt k.val nL
    | .lstore_n k => ft && Nat.beq len 1 && Nat.beq a0 k.val && Nat.blt (k.val + 1) nL
    | .iconst v => ft && Nat.beq len 1 && decide (Int32.ofInt v = s0)
    | .bipush v => ft && Nat.beq len 2 && decide ((Int8.ofInt v).toInt32 = s0)
    | .sipush v => ft && Nat.beq len 3 && decide ((Int16.ofInt v).toInt32 = s0)
    | .ldc _ => ft && Nat.beq len 2
    | .ldc_w _ => ft && Nat.beq len 3
    | .lconst k => ft && Nat.beq len 1 && Nat.beq a0 k.val
    | .ldc2_w _ => ft && Nat.beq len 3
    | .iinc k d => ft && Nat.beq len 3 && Nat.beq a0 k && Nat.blt k nL && decide (Int32.ofInt d = s0)
    | .ifCond _ o => ft && Nat.beq len 3 && decide ((pc : Int) + o = ((bRow M tgt).1 : Int))
    | .if_icmp _ o => ft && Nat.beq len 3 && decide ((pc : Int) + o = ((bRow M tgt).1 : Int))
    | .ifnull o => ft && Nat.beq len 3 && decide ((pc : Int) + o = ((bRow M tgt).1 : Int))
    | .ifnonnull o => ft && Nat.beq len 3 && decide ((pc : Int) + o = ((bRow M tgt).1 : Int))
    | .goto o => Nat.beq len 3 && decide ((pc : Int) + o = ((bRow M tgt).1 : Int))
    | .tableswitch d lo hi os => decide ((pc : Int) + d = ((bRow M tgt).1 : Int)) && bSwOk M pc lo 0 sw os.toList && decide (hi = lo + (os.size : Int) - 1)
    | .getfield _ => (match aux with
      | [ci, k, t, kd, x, y] => ft && Nat.beq len 3 && Nat.blt ci 13 && Nat.blt k (bNf ci) && decide (bFk ci k = (t, kd, x, y))
      | _ => false)
    | .putfield _ => (match aux with
      | [ci, k, t, kd, x, y] => ft && Nat.beq len 3 && Nat.blt ci 13 && Nat.blt k (bNf ci) && decide (bFk ci k = (t, kd, x, y)) && (!(bFn ci k).2.2.2 || (decide ((bYt n).1.name = "<init>") && decide ((bYt n).1.cls = bCn ci)))
      | _ => false)
    | .getstatic _ => ft && Nat.beq len 3 && Nat.beq a0 201
    | .new _ => (match aux with
      | [1, _, _, _, _] => Nat.beq len 3
      | [_, ci, m, _, _] => ft && Nat.beq len 3 && Nat.blt ci 13 && Nat.beq m (bNf ci)
      | _ => false)
    | .newarray t => ft && Nat.beq len 2 && Nat.ble 13 a0 && Nat.blt a0 200 && (match t with
      | .int => Nat.beq (bTy a0) 0
      | .boolean => Nat.beq (bTy a0) 1
      | .long => Nat.beq (bTy a0) 2
      | _ => false)
    | .anewarray _ => ft && Nat.beq len 3 && Nat.ble 13 a0 && Nat.blt a0 200 && Nat.ble 10 (bTy a0) && Nat.blt (bTy a0) 23
    | .invokevirtual _ => (match aux with
      | [0, ci, mi, k] => ft && Nat.beq len 3 && Nat.blt mi 357 && decide ((bYt mi).1.cls = bCn ci) && Nat.blt ci 13 && bPlain (bYt mi).1 k
      | _ => false)
    | .invokestatic _ => (match aux with
      | [2, mi, k] => ft && Nat.beq len 3 && Nat.blt mi 362 && bPlain (bYt mi).1 k && !(Nat.beq mi 357) && (Nat.beq tgt 0 || Nat.blt mi 314 || Nat.blt 357 mi)
      | [7, _, _] => ft && Nat.beq len 3
      | _ => false)
    | .invokespecial _ => (match aux with
      | [4, ci, mi, k] => ft && Nat.beq len 3 && Nat.blt mi 357 && decide ((bYt mi).1.cls = bCn ci) && Nat.blt ci 13 && bPlain (bYt mi).1 k && decide ((bYt mi).1.name = "<init>")
      | [6, _, _] => ft && Nat.beq len 3
      | [9] => true
      | _ => false)
    | .athrow => true
    | .return_ => Nat.beq len 1 && decide ((bYt n).2.2 = none) && (match aux with
      | [0] => decide ((bYt n).1.name ≠ "<init>")
      | 5 :: kd :: ks => Nat.beq kd (bCi n) && decide ((bYt n).1.name = "<init>") && decide (ks = (List.range (bNf (bCi n))).filter (fun k => Nat.beq (bFk (bCi n) k).1 3)) && decide ((bYt n).1.cls = bCn (bCi n)) && Nat.blt (bCi n) 13
      | _ => false)
    | .ireturn => Nat.beq len 1 && Nat.beq a0 (bRtc (bYt n).2.2) && (Nat.beq a0 1 || Nat.beq a0 2)
    | .lreturn => Nat.beq len 1 && Nat.beq a0 3 && decide ((bYt n).2.2 = some .long)
    | .areturn => Nat.beq len 1 && Nat.beq a0 4 && Nat.beq (bRtc (bYt n).2.2) 4
    | .aaload => ft && Nat.beq len 1 && Nat.ble 10 a0 && Nat.blt a0 23
    | .aastore => ft && Nat.beq len 1 && Nat.ble 10 a0 && Nat.blt a0 23 && Nat.beq (bnth aux 1 0 + 10) a0
    | _ => ft && Nat.beq len 1) (Nat.beq (bRow M nxt).1 (pc + len)) (bnth aux 0 0) (bnth sw 0 (0, 0)).1 M.2.2
/-- a block of rows with its words' places -/
noncomputable def bOkB (n : Nat) (M : bM) : List bE → List (List (Nat × Nat)) → Bool
  | [], [] => true
  | e :: l, ps :: r => decide (decode (bYt n).2.1 e.1 = .ok (e.2.1, e.2.2.1)) && (decide ((bNd (bYt n).1.cls e).map some = ps.map bWat) && (bStr n M e && bOkB n M l r))
  | _, _ => false
