/-! DATA of the small machine, printed by wip/whole/tools/gen_data.py out of the Statement's tables and the class files: classes and fields, links, instruction tables -/
def mR0 : String := "PartingTrains$Arrivals"
def mT0 : u_T := fun k => match k with
  | 0 => ("PartingTrains$Arrivals", "at", "[I", true)
  | 1 => ("PartingTrains$Arrivals", "minute", "[I", true)
  | 2 => ("PartingTrains$Arrivals", "members", "[I", true)
  | 3 => ("PartingTrains$Arrivals", "last", "[I", true)
  | _ => ("PartingTrains$Arrivals", "next", "[I", true)
def mR1 : String := "PartingTrains$Evening"
def mT1 : u_T := fun k => match k with
  | 0 => ("PartingTrains$Evening", "land", "LPartingTrains$Land;", true)
  | 1 => ("PartingTrains$Evening", "tree", "LPartingTrains$Tree;", true)
  | 2 => ("PartingTrains$Evening", "plan", "LPartingTrains$Plan;", true)
  | 3 => ("PartingTrains$Evening", "wait", "[I", true)
  | 4 => ("PartingTrains$Evening", "halts", "I", false)
  | 5 => ("PartingTrains$Evening", "nextHalt", "[I", true)
  | 6 => ("PartingTrains$Evening", "lateness", "[I", true)
  | 7 => ("PartingTrains$Evening", "rows", "LPartingTrains$Arrivals;", true)
  | 8 => ("PartingTrains$Evening", "saved", "LPartingTrains$Arrivals;", true)
  | 9 => ("PartingTrains$Evening", "queue", "[I", true)
  | 10 => ("PartingTrains$Evening", "queued", "I", false)
  | 11 => ("PartingTrains$Evening", "alone", "I", false)
  | 12 => ("PartingTrains$Evening", "harms", "[J", true)
  | 13 => ("PartingTrains$Evening", "usual", "[I", true)
  | _ => ("PartingTrains$Evening", "seed", "I", false)
def mR2 : String := "PartingTrains$Grouping"
def mT2 : u_T := fun k => match k with
  | 0 => ("PartingTrains$Grouping", "land", "LPartingTrains$Land;", true)
  | 1 => ("PartingTrains$Grouping", "tree", "LPartingTrains$Tree;", true)
  | 2 => ("PartingTrains$Grouping", "plan", "LPartingTrains$Plan;", true)
  | 3 => ("PartingTrains$Grouping", "orders", "LPartingTrains$Orders;", true)
  | 4 => ("PartingTrains$Grouping", "walk", "LPartingTrains$Walk;", true)
  | 5 => ("PartingTrains$Grouping", "known", "I", false)
  | 6 => ("PartingTrains$Grouping", "forksNeeded", "[I", true)
  | 7 => ("PartingTrains$Grouping", "fullWants", "[I", true)
  | 8 => ("PartingTrains$Grouping", "halfWants", "[I", true)
  | 9 => ("PartingTrains$Grouping", "takes", "[I", true)
  | 10 => ("PartingTrains$Grouping", "takeAt", "[I", true)
  | 11 => ("PartingTrains$Grouping", "takeLoad", "[I", true)
  | 12 => ("PartingTrains$Grouping", "needs", "[J", true)
  | 13 => ("PartingTrains$Grouping", "greatest", "I", false)
  | 14 => ("PartingTrains$Grouping", "kept", "[I", true)
  | 15 => ("PartingTrains$Grouping", "open", "I", false)
  | 16 => ("PartingTrains$Grouping", "free", "J", false)
  | 17 => ("PartingTrains$Grouping", "sets", "[I", true)
  | 18 => ("PartingTrains$Grouping", "chosen", "[I", true)
  | _ => ("PartingTrains$Grouping", "worthBy", "[I", true)
def mR3 : String := "PartingTrains$Judge"
def mT3 : u_T := fun k => match k with
  | 0 => ("PartingTrains$Judge", "land", "LPartingTrains$Land;", true)
  | 1 => ("PartingTrains$Judge", "tree", "LPartingTrains$Tree;", true)
  | 2 => ("PartingTrains$Judge", "plan", "LPartingTrains$Plan;", true)
  | 3 => ("PartingTrains$Judge", "walk", "LPartingTrains$Walk;", true)
  | 4 => ("PartingTrains$Judge", "errors", "[I", true)
  | 5 => ("PartingTrains$Judge", "engines", "[I", true)
  | 6 => ("PartingTrains$Judge", "arrivals", "[I", true)
  | _ => ("PartingTrains$Judge", "taken", "I", false)
def mR4 : String := "PartingTrains$Land"
def mT4 : u_T := fun k => match k with
  | 0 => ("PartingTrains$Land", "places", "I", false)
  | 1 => ("PartingTrains$Land", "up", "[I", true)
  | 2 => ("PartingTrains$Land", "toUp", "[I", true)
  | 3 => ("PartingTrains$Land", "platform", "[I", true)
  | 4 => ("PartingTrains$Land", "parting", "[I", true)
  | 5 => ("PartingTrains$Land", "joining", "[I", true)
  | 6 => ("PartingTrains$Land", "portions", "I", false)
  | 7 => ("PartingTrains$Land", "end", "[I", true)
  | 8 => ("PartingTrains$Land", "carriages", "[I", true)
  | 9 => ("PartingTrains$Land", "chance", "[I", true)
  | 10 => ("PartingTrains$Land", "delay", "[I", true)
  | 11 => ("PartingTrains$Land", "engines", "I", false)
  | 12 => ("PartingTrains$Land", "engineAt", "[I", true)
  | 13 => ("PartingTrains$Land", "pulls", "[I", true)
  | 14 => ("PartingTrains$Land", "wants", "I", false)
  | 15 => ("PartingTrains$Land", "wantTo", "[I", true)
  | 16 => ("PartingTrains$Land", "people", "[I", true)
  | _ => ("PartingTrains$Land", "wantMinute", "[I", true)
def mR5 : String := "PartingTrains$Orders"
def mT5 : u_T := fun k => match k with
  | 0 => ("PartingTrains$Orders", "land", "LPartingTrains$Land;", true)
  | 1 => ("PartingTrains$Orders", "tree", "LPartingTrains$Tree;", true)
  | 2 => ("PartingTrains$Orders", "head", "[I", true)
  | _ => ("PartingTrains$Orders", "offset", "[I", true)
def mR6 : String := "PartingTrains$Plan"
def mT6 : u_T := fun k => match k with
  | 0 => ("PartingTrains$Plan", "trains", "I", false)
  | 1 => ("PartingTrains$Plan", "minute", "[I", true)
  | 2 => ("PartingTrains$Plan", "size", "[I", true)
  | 3 => ("PartingTrains$Plan", "row", "[I", true)
  | 4 => ("PartingTrains$Plan", "trainOf", "[I", true)
  | 5 => ("PartingTrains$Plan", "jobs", "I", false)
  | 6 => ("PartingTrains$Plan", "jobFrom", "[I", true)
  | 7 => ("PartingTrains$Plan", "jobMinute", "[I", true)
  | 8 => ("PartingTrains$Plan", "jobTo", "[I", true)
  | 9 => ("PartingTrains$Plan", "jobEnd", "[I", true)
  | 10 => ("PartingTrains$Plan", "shutForks", "I", false)
  | 11 => ("PartingTrains$Plan", "wait", "[I", true)
  | 12 => ("PartingTrains$Plan", "days", "[I", true)
  | _ => ("PartingTrains$Plan", "start", "[I", true)
def mR7 : String := "PartingTrains$Reader"
def mT7 : u_T := fun k => match k with
  | 0 => ("PartingTrains$Reader", "draft", "LPartingTrains$Land;", true)
  | 1 => ("PartingTrains$Reader", "text", "[B", true)
  | 2 => ("PartingTrains$Reader", "length", "I", false)
  | 3 => ("PartingTrains$Reader", "at", "I", false)
  | 4 => ("PartingTrains$Reader", "wordAt", "I", false)
  | 5 => ("PartingTrains$Reader", "fault", "I", false)
  | _ => ("PartingTrains$Reader", "faultAt", "I", false)
def mR8 : String := "PartingTrains$Roster"
def mT8 : u_T := fun k => match k with
  | 0 => ("PartingTrains$Roster", "land", "LPartingTrains$Land;", true)
  | 1 => ("PartingTrains$Roster", "tree", "LPartingTrains$Tree;", true)
  | 2 => ("PartingTrains$Roster", "plan", "LPartingTrains$Plan;", true)
  | 3 => ("PartingTrains$Roster", "after", "[I", true)
  | 4 => ("PartingTrains$Roster", "ahead", "[I", true)
  | 5 => ("PartingTrains$Roster", "doneBehind", "[I", true)
  | 6 => ("PartingTrains$Roster", "tried", "I", false)
  | 7 => ("PartingTrains$Roster", "picks", "[I", true)
  | 8 => ("PartingTrains$Roster", "leastWays", "I", false)
  | _ => ("PartingTrains$Roster", "leastBits", "I", false)
def mR9 : String := "PartingTrains$Tree"
def mT9 : u_T := fun k => match k with
  | 0 => ("PartingTrains$Tree", "land", "LPartingTrains$Land;", true)
  | 1 => ("PartingTrains$Tree", "ways", "[I", true)
  | 2 => ("PartingTrains$Tree", "steps", "[I", true)
  | 3 => ("PartingTrains$Tree", "path", "[I", true)
  | 4 => ("PartingTrains$Tree", "coming", "[I", true)
  | 5 => ("PartingTrains$Tree", "ending", "[I", true)
  | _ => ("PartingTrains$Tree", "loads", "[I", true)
def mR10 : String := "PartingTrains$Walk"
def mT10 : u_T := fun k => match k with
  | 0 => ("PartingTrains$Walk", "land", "LPartingTrains$Land;", true)
  | 1 => ("PartingTrains$Walk", "tree", "LPartingTrains$Tree;", true)
  | 2 => ("PartingTrains$Walk", "row", "[I", true)
  | 3 => ("PartingTrains$Walk", "waiting", "I", false)
  | 4 => ("PartingTrains$Walk", "placeOf", "[I", true)
  | 5 => ("PartingTrains$Walk", "lowOf", "[I", true)
  | 6 => ("PartingTrains$Walk", "highOf", "[I", true)
  | 7 => ("PartingTrains$Walk", "minuteOf", "[I", true)
  | 8 => ("PartingTrains$Walk", "engineOf", "[I", true)
  | 9 => ("PartingTrains$Walk", "place", "I", false)
  | 10 => ("PartingTrains$Walk", "low", "I", false)
  | 11 => ("PartingTrains$Walk", "high", "I", false)
  | 12 => ("PartingTrains$Walk", "minute", "I", false)
  | 13 => ("PartingTrains$Walk", "engine", "I", false)
  | 14 => ("PartingTrains$Walk", "groups", "I", false)
  | 15 => ("PartingTrains$Walk", "groupLow", "[I", true)
  | _ => ("PartingTrains$Walk", "groupEngine", "[I", true)
def mR11 : String := "PartingTrains"
def mT11 : u_T := fun k => match k with
  | 0 => ("PartingTrains", "tape", "[B", true)
  | 1 => ("PartingTrains", "taped", "I", false)
  | 2 => ("PartingTrains", "faultAt", "I", false)
  | 3 => ("PartingTrains", "reader", "LPartingTrains$Reader;", true)
  | 4 => ("PartingTrains", "land", "LPartingTrains$Land;", true)
  | 5 => ("PartingTrains", "tree", "LPartingTrains$Tree;", true)
  | 6 => ("PartingTrains", "plan", "LPartingTrains$Plan;", true)
  | 7 => ("PartingTrains", "images", "[LPartingTrains$Plan;", true)
  | 8 => ("PartingTrains", "imageCount", "I", false)
  | 9 => ("PartingTrains", "orders", "LPartingTrains$Orders;", true)
  | 10 => ("PartingTrains", "walk", "LPartingTrains$Walk;", true)
  | 11 => ("PartingTrains", "judge", "LPartingTrains$Judge;", true)
  | 12 => ("PartingTrains", "grouping", "LPartingTrains$Grouping;", true)
  | 13 => ("PartingTrains", "evening", "LPartingTrains$Evening;", true)
  | 14 => ("PartingTrains", "roster", "LPartingTrains$Roster;", true)
  | _ => ("PartingTrains", "spareRow", "[I", true)
def mR12 : String := "PartingTrainsModel"
def mT12 : u_T := fun k => match k with
  | 0 => ("PartingTrainsModel", "thrown", "I", false)
  | 1 => ("PartingTrainsModel", "tape", "I", false)
  | 2 => ("PartingTrainsModel", "size", "I", false)
  | 3 => ("PartingTrainsModel", "place", "I", false)
  | 4 => ("PartingTrainsModel", "at", "I", false)
  | 5 => ("PartingTrainsModel", "fault", "I", false)
  | 6 => ("PartingTrainsModel", "faultAt", "I", false)
  | 7 => ("PartingTrainsModel", "clauses", "I", false)
  | 8 => ("PartingTrainsModel", "fed", "[I", true)
  | 9 => ("PartingTrainsModel", "many", "[I", true)
  | 10 => ("PartingTrainsModel", "places", "[[I", true)
  | 11 => ("PartingTrainsModel", "portions", "[[I", true)
  | 12 => ("PartingTrainsModel", "engines", "[[I", true)
  | 13 => ("PartingTrainsModel", "wants", "[[I", true)
  | 14 => ("PartingTrainsModel", "isLand", "Z", false)
  | 15 => ("PartingTrainsModel", "trains", "I", false)
  | 16 => ("PartingTrainsModel", "jobs", "I", false)
  | 17 => ("PartingTrainsModel", "images", "I", false)
  | 18 => ("PartingTrainsModel", "row", "[[I", true)
  | 19 => ("PartingTrainsModel", "rowMany", "[I", true)
  | 20 => ("PartingTrainsModel", "leaves", "[I", true)
  | 21 => ("PartingTrainsModel", "shut", "[I", true)
  | 22 => ("PartingTrainsModel", "wait", "[I", true)
  | 23 => ("PartingTrainsModel", "evening", "[I", true)
  | 24 => ("PartingTrainsModel", "days", "[I", true)
  | 25 => ("PartingTrainsModel", "job", "[[I", true)
  | 26 => ("PartingTrainsModel", "error", "[I", true)
  | 27 => ("PartingTrainsModel", "arrives", "[I", true)
  | 28 => ("PartingTrainsModel", "engineOf", "[I", true)
  | 29 => ("PartingTrainsModel", "isTaken", "[Z", true)
  | 30 => ("PartingTrainsModel", "next", "[I", true)
  | 31 => ("PartingTrainsModel", "bitsNow", "[I", true)
  | 32 => ("PartingTrainsModel", "pulls", "[[I", true)
  | 33 => ("PartingTrainsModel", "setRow", "[[I", true)
  | 34 => ("PartingTrainsModel", "setMany", "[I", true)
  | 35 => ("PartingTrainsModel", "setPlaces", "[I", true)
  | 36 => ("PartingTrainsModel", "made", "[I", true)
  | 37 => ("PartingTrainsModel", "madeMany", "I", false)
  | 38 => ("PartingTrainsModel", "bestOf", "[I", true)
  | 39 => ("PartingTrainsModel", "asideMany", "[I", true)
  | 40 => ("PartingTrainsModel", "asideRow", "[[I", true)
  | 41 => ("PartingTrainsModel", "group", "[[I", true)
  | 42 => ("PartingTrainsModel", "groupMany", "[I", true)
  | 43 => ("PartingTrainsModel", "time", "[I", true)
  | 44 => ("PartingTrainsModel", "where", "[I", true)
  | 45 => ("PartingTrainsModel", "start", "[I", true)
  | 46 => ("PartingTrainsModel", "reach", "[I", true)
  | 47 => ("PartingTrainsModel", "order", "[I", true)
  | 48 => ("PartingTrainsModel", "had", "[I", true)
  | 49 => ("PartingTrainsModel", "groups", "I", false)
  | 50 => ("PartingTrainsModel", "came", "I", false)
  | 51 => ("PartingTrainsModel", "kept", "[[I", true)
  | 52 => ("PartingTrainsModel", "spot", "I", false)
  | _ => ("PartingTrainsModel", "seedNow", "I", false)
abbrev mcl : List vw_C := [(mR0, mT0, 5), (mR1, mT1, 15), (mR2, mT2, 20), (mR3, mT3, 8), (mR4, mT4, 18), (mR5, mT5, 4), (mR6, mT6, 14), (mR7, mT7, 7), (mR8, mT8, 10), (mR9, mT9, 7), (mR10, mT10, 17), (mR11, mT11, 16), (mR12, mT12, 54)]
/-- the kinds of the fields: 0 int, 1 long, 2 a reference, 3 boolean -/
def mfk : List (List Nat) := [[2, 2, 2, 2, 2], [2, 2, 2, 2, 0, 2, 2, 2, 2, 2, 0, 0, 2, 2, 0], [2, 2, 2, 2, 2, 0, 2, 2, 2, 2, 2, 2, 2, 0, 2, 0, 1, 2, 2, 2], [2, 2, 2, 2, 2, 2, 2, 0], [0, 2, 2, 2, 2, 2, 0, 2, 2, 2, 2, 0, 2, 2, 0, 2, 2, 2], [2, 2, 2, 2], [0, 2, 2, 2, 2, 0, 2, 2, 2, 2, 0, 2, 2, 2], [2, 2, 0, 0, 0, 0, 0], [2, 2, 2, 2, 2, 2, 0, 2, 0, 0], [2, 2, 2, 2, 2, 2, 2], [2, 2, 2, 0, 2, 2, 2, 2, 2, 0, 0, 0, 0, 0, 0, 2, 2], [2, 0, 0, 2, 2, 2, 2, 2, 0, 2, 2, 2, 2, 2, 2, 2], [0, 0, 0, 0, 0, 0, 0, 0, 2, 2, 2, 2, 2, 2, 3, 0, 0, 0, 2, 2, 2, 2, 2, 2, 2, 2, 2, 2, 2, 2, 2, 2, 2, 2, 2, 2, 2, 0, 2, 2, 2, 2, 2, 2, 2, 2, 2, 2, 2, 0, 0, 2, 0, 0]]
def mOwn : List String := ["PartingTrains$Arrivals", "PartingTrains$Evening", "PartingTrains$Grouping", "PartingTrains$Judge", "PartingTrains$Land", "PartingTrains$Orders", "PartingTrains$Plan", "PartingTrains$Reader", "PartingTrains$Roster", "PartingTrains$Tree", "PartingTrains$Walk", "PartingTrains", "PartingTrainsModel", "PartingTrainsLaw", "java/util/Arrays", "java/lang/Integer", "java/lang/Math"]
def mcp0 : List (List (Option (Nat × Nat × Nat))) := [[none, none, none, some (5, 0, 0), none, none, none, none, none, some (0, 0, 0), none, none, none, none, none, some (0, 0, 1)],
  [none, none, some (0, 0, 2), none, none, some (0, 0, 3), none, none, some (0, 0, 4), none, none, some (12, 0, 0)]]
def mcp1 : List (List (Option (Nat × Nat × Nat))) := [[none, none, none, some (5, 0, 0), none, none, none, none, none, some (0, 1, 3), none, none, none, none, none, some (0, 1, 5)],
  [none, none, some (0, 1, 6), none, none, some (6, 0, 5), none, some (4, 0, 0), some (0, 1, 7), none, none, none, some (0, 1, 8), none, none, some (0, 1, 9)],
  [none, none, some (0, 1, 12), none, none, none, some (0, 1, 13), none, none, some (0, 1, 0), none, none, none, some (0, 1, 1)],
  [none, some (0, 1, 2), none, none, none, some (0, 6, 11), none, none, some (12, 0, 0), none, none, none, none, none, some (0, 1, 4)],
  [none, none, some (0, 4, 0), none, none, none, none, some (0, 4, 1), none, none, some (1, 14, 1), none, none, none, some (0, 9, 4)],
  [none, none, none, some (1, 62, 1), none, none, some (1, 81, 1), none, none, some (0, 1, 11), none, none, some (0, 4, 6), none, none, some (0, 4, 8)],
  [none, none, some (0, 6, 13), none, none, some (0, 4, 7), none, none, some (1, 121, 2), none, none, none, some (0, 4, 10), none, none, some (1, 1, 3)],
  [none, none, none, some (1, 11, 1), none, none, none, some (1, 16, 1), none, none, some (1, 17, 1), none, none, some (1, 20, 0)],
  [some (1, 23, 1), none, none, some (1, 24, 0), none, none, some (1, 27, 2), none, none, none, some (0, 1, 10), none, none, some (0, 0, 0)],
  [some (1, 3, 2), none, none, none, some (1, 15, 2), none, none, some (0, 0, 1), none, none, some (0, 9, 6), none, none, some (0, 0, 2)],
  [some (0, 4, 3), none, none, some (1, 4, 2), none, none, some (0, 4, 5), none, none, some (0, 4, 9), none, none, some (1, 9, 0)],
  [some (1, 28, 2), none, none, none, some (1, 12, 0), none, none, some (2, 316, 2), none, none, none, none, none, some (1, 6, 2)],
  [none, some (1, 2, 1), none, none, none, some (1, 26, 1), none, none, none, some (1, 19, 1), none, none, some (1, 21, 1), none, none, some (0, 6, 2)],
  [none, none, some (0, 6, 3), none, none, some (0, 0, 4), none, none, some (0, 1, 14), none, none, some (1, 10, 0), none, none, some (9, 1103515245, 0)]]
def mcp2 : List (List (Option (Nat × Nat × Nat))) := [[none, none, none, some (5, 0, 0), none, none, none, none, none, some (0, 2, 6), none, none, none, none, none, some (0, 2, 7)],
  [none, none, some (0, 2, 8), none, none, some (0, 2, 9), none, none, some (0, 2, 10), none, none, some (0, 2, 11), none, none, some (0, 2, 12)],
  [none, none, some (0, 2, 14), none, none, some (0, 2, 17), none, none, some (0, 2, 18), none, none, some (0, 2, 19), none, none, some (0, 2, 0)],
  [none, none, some (0, 2, 1), none, none, none, some (0, 2, 2), none, none, none, some (0, 2, 3), none, none, none, some (0, 2, 4)],
  [none, none, some (0, 2, 5), none, none, none, some (2, 320, 2), none, none, none, none, none, some (1, 55, 0)],
  [none, none, some (1, 40, 1), none, none, none, some (1, 30, 0), none, none, some (1, 42, 1), none, none, some (0, 2, 13), none, none, some (1, 67, 3)],
  [none, none, none, none, none, some (2, 317, 1), none, none, none, none, none, some (1, 129, 4)],
  [none, some (1, 125, 0), none, none, none, some (1, 135, 0), none, none, some (0, 10, 9), none, none, some (1, 39, 1), none, none, some (1, 128, 0)],
  [none, some (1, 41, 2), none, none, none, some (1, 130, 0), none, none, some (0, 4, 3), none, none, some (1, 126, 0), none, none, some (1, 38, 2)],
  [none, some (0, 10, 14), none, none, some (1, 131, 1), none, none, some (0, 4, 14), none, none, some (0, 4, 15), none, none, some (1, 120, 2)],
  [none, none, none, some (1, 119, 2), none, none, some (1, 58, 0), none, none, some (0, 6, 10), none, none, none, none, some (0, 2, 15)],
  [none, some (0, 2, 16), none, none, none, some (0, 4, 11), none, none, some (0, 4, 12), none, none, some (2, 315, 2)],
  [none, some (0, 6, 0), none, none, some (0, 6, 1), none, none, some (1, 60, 2), none, none, some (0, 4, 6), none, none, some (1, 37, 0)],
  [some (1, 31, 0), none, none, some (1, 36, 1), none, none, some (10, 595056260442243600, 0), none, some (1, 32, 0), none, none, some (12, 0, 0)],
  [none, some (1, 59, 3), none, none, none, some (2, 319, 2)]]
def mcp3 : List (List (Option (Nat × Nat × Nat))) := [[none, none, none, some (5, 0, 0), none, none, none, none, none, some (0, 3, 4), none, none, none, none, none, some (0, 3, 5)],
  [none, none, some (0, 3, 6), none, none, some (0, 3, 0), none, none, none, some (0, 3, 1), none, none, none, some (0, 3, 2)],
  [none, some (0, 3, 3), none, none, none, some (0, 3, 7), none, none, none, some (2, 315, 2), none, none, none, none, none, some (0, 6, 0)],
  [none, none, none, none, some (1, 47, 1), none, none, none, some (1, 45, 1), none, none, none, some (0, 6, 3), none, none, some (0, 6, 2)],
  [none, none, some (0, 6, 1), none, none, some (1, 129, 4), none, none, none, none, none, some (1, 125, 0), none, none, none, some (1, 44, 0)],
  [none, none, none, some (0, 10, 9), none, none, some (0, 10, 15), none, none, some (0, 10, 14), none, none, some (0, 10, 11), none, none, some (0, 10, 2)],
  [some (0, 10, 12), none, some (0, 10, 13), none, none, some (1, 128, 0), none, none, some (1, 130, 0), none, none, some (0, 4, 3)],
  [some (1, 135, 0), none, none, some (1, 62, 1), none, none, none, some (1, 81, 1), none, none, some (1, 126, 0), none, none, some (1, 50, 0)],
  [some (1, 49, 2), none, none, none, some (0, 10, 16), none, none, some (1, 131, 1), none, none, some (1, 59, 3), none, none, none, some (0, 4, 14)],
  [none, some (1, 52, 1), none, none, some (1, 51, 2), none, none, some (2, 319, 2), none, none, none, none, some (1, 48, 1), none, none, some (1, 60, 2)],
  [none, none, some (0, 4, 15), none, none, some (1, 120, 2), none, none, none, none, none, some (1, 119, 2), none, none, some (0, 9, 3)],
  [none, some (0, 4, 7)]]
def mcp4 : List (List (Option (Nat × Nat × Nat))) := [[none, none, none, some (5, 0, 0), none, none, none, none, none, some (0, 4, 1), none, none, none, none, none, some (0, 4, 2)],
  [none, none, some (0, 4, 3), none, none, some (0, 4, 4), none, none, some (0, 4, 5), none, none, some (0, 4, 7), none, none, some (0, 4, 8)],
  [none, some (0, 4, 9), none, none, some (0, 4, 10), none, none, some (0, 4, 12), none, none, some (0, 4, 13), none, none, some (0, 4, 15)],
  [some (0, 4, 16), none, none, some (0, 4, 17), none, none, some (0, 4, 0), none, none, none, some (0, 4, 6), none, none, some (0, 4, 11)],
  [some (0, 4, 14), none, none, some (2, 315, 2), none, none, none, none, none, some (12, 0, 0), none, none, none, none, none, some (1, 62, 1)],
  [none, none, none, some (2, 318, 1), none, none, none, none, none, some (2, 320, 2)]]
def mcp5 : List (List (Option (Nat × Nat × Nat))) := [[none, none, none, some (5, 0, 0), none, none, none, none, none, some (0, 5, 2), none, none, none, none, none, some (0, 5, 3)],
  [none, none, some (0, 5, 0), none, none, none, some (0, 5, 1), none, none, none, some (0, 4, 0)],
  [some (0, 9, 5), none, none, none, none, some (2, 317, 1), none, none, none, none, none, some (1, 65, 1), none, none, some (1, 69, 2)],
  [none, none, some (0, 4, 1), none, none, some (0, 9, 4), none, none, some (1, 66, 1), none, none, none, some (1, 72, 2), none, none, some (1, 73, 3)],
  [none, none, none, some (1, 71, 1), none, none, some (1, 68, 2), none, none, some (0, 4, 6)]]
def mcp6 : List (List (Option (Nat × Nat × Nat))) := [[none, none, none, some (5, 0, 0), none, none, none, none, none, some (0, 6, 1), none, none, none, none, none, some (0, 6, 2)],
  [none, none, some (0, 6, 3), none, none, some (0, 6, 4), none, none, some (0, 6, 6), none, none, some (0, 6, 7), none, none, some (0, 6, 8)],
  [none, some (0, 6, 9), none, none, some (0, 6, 11), none, none, some (0, 6, 12), none, none, some (0, 6, 13), none, none, some (1, 78, 0)],
  [some (0, 6, 0), none, none, none, some (0, 6, 5), none, none, some (0, 6, 10), none, none, some (2, 315, 2)],
  [some (12, 0, 0)]]
def mcp7 : List (List (Option (Nat × Nat × Nat))) := [[none, none, none, some (5, 0, 0), none, none, none, none, none, some (6, 4, 18), none, some (4, 54, 0), some (0, 7, 0)],
  [none, none, some (0, 7, 1), none, none, none, some (0, 7, 6), none, none, none, some (0, 7, 2), none, none, some (0, 7, 3)],
  [some (0, 7, 5), none, none, some (1, 57, 0), none, none, some (1, 97, 0), none, none, some (1, 101, 0), none, none, some (1, 90, 1)],
  [some (0, 7, 4), none, none, some (13, 0, 0), none, none, none, none, some (14, 0, 0), none, none, none, some (9, 1000000, 0), some (2, 320, 2)],
  [none, none, none, some (1, 86, 2), none, none, none, some (1, 99, 0), none, none, some (11, 22, 0), none, some (1, 88, 1)],
  [some (1, 94, 2), none, none, some (1, 87, 0), none, none, none, some (0, 4, 3), none, none, none, some (0, 4, 1), none, none, some (0, 4, 2)],
  [none, some (0, 4, 0), none, none, some (11, 23, 0), none, some (1, 95, 1), none, none, some (11, 24, 0), none, some (1, 92, 1), none, none, some (11, 25, 0)],
  [some (0, 4, 6), none, none, some (1, 96, 1), none, none, some (11, 26, 0), none, some (1, 93, 1), none, none, some (11, 27, 0), none, some (0, 4, 11)],
  [some (1, 91, 1), none, none, some (11, 28, 0), none, some (0, 4, 14), none, none, some (1, 98, 1), none, none, some (1, 100, 1), none, none, some (0, 4, 4)],
  [none, some (0, 4, 5), none, none, some (0, 4, 7), none, none, some (0, 4, 8), none, none, some (0, 4, 9), none, none, some (0, 4, 10)],
  [some (0, 4, 12), none, none, some (0, 4, 13), none, none, some (0, 4, 15), none, none, some (0, 4, 16), none, none, some (0, 4, 17)]]
def mcp8 : List (List (Option (Nat × Nat × Nat))) := [[none, none, none, some (5, 0, 0), none, none, none, none, none, some (0, 8, 3), none, none, none, none, none, some (0, 8, 4)],
  [none, none, some (0, 8, 5), none, none, some (0, 8, 7), none, none, some (0, 8, 0), none, none, none, some (0, 8, 1)],
  [some (0, 8, 2), none, none, none, some (0, 6, 9), none, none, none, none, some (0, 6, 8), none, none, some (0, 6, 6), none, none, some (1, 121, 2)],
  [none, none, none, none, none, some (0, 6, 7), none, none, some (2, 315, 2), none, none, none, none, none, some (0, 6, 5)],
  [none, none, some (1, 104, 2), none, none, none, some (1, 109, 0), none, none, some (1, 103, 0), none, none, none, some (1, 105, 1)],
  [none, some (0, 8, 6), none, none, some (1, 108, 3), none, none, none, some (2, 317, 1), none, none, none, none, some (1, 106, 0)],
  [some (1, 113, 1), none, none, some (0, 8, 8), none, none, some (1, 110, 1), none, none, some (0, 8, 9), none, none, some (1, 111, 1)],
  [some (0, 4, 0), none, none, none, none, some (1, 62, 1), none, none, some (2, 320, 2)]]
def mcp9 : List (List (Option (Nat × Nat × Nat))) := [[none, none, none, some (5, 0, 0), none, none, none, none, none, some (0, 9, 1), none, none, none, none, none, some (0, 9, 2)],
  [none, none, some (0, 9, 3), none, none, some (0, 9, 4), none, none, some (0, 9, 5), none, none, some (0, 9, 6), none, none, some (0, 9, 0)],
  [none, none, some (0, 4, 0), none, none, none, none, none, some (0, 4, 1), none, none, some (1, 118, 1), none, none, none, some (1, 117, 1)],
  [none, none, some (1, 115, 1), none, none, some (0, 4, 6), none, none, some (0, 4, 8), none, none, some (0, 4, 2), none, none, some (0, 4, 7)]]
def mcp10 : List (List (Option (Nat × Nat × Nat))) := [[none, none, none, some (5, 0, 0), none, none, none, none, none, some (0, 10, 2), none, none, none, none, none, some (0, 10, 4)],
  [none, none, some (0, 10, 5), none, none, some (0, 10, 6), none, none, some (0, 10, 7), none, none, some (0, 10, 8), none, none, some (0, 10, 15)],
  [none, some (0, 10, 16), none, none, some (0, 10, 0), none, none, none, some (0, 10, 1), none, none, none, some (12, 0, 0)],
  [none, none, some (0, 10, 3), none, none, none, some (1, 134, 5), none, none, none, some (0, 10, 9), none, none, some (0, 10, 10)],
  [some (0, 10, 11), none, none, some (0, 10, 12), none, none, some (0, 10, 13), none, none, some (0, 10, 14), none, none, some (0, 4, 7)],
  [none, some (1, 122, 2), none, none, none, none, none, some (0, 9, 6), none, none, some (1, 124, 2), none, none, some (1, 126, 0)],
  [none, some (0, 4, 4), none, none, some (0, 4, 2), none, none, some (1, 129, 4), none, none, none, some (1, 125, 0), none, none, none, some (1, 135, 0)],
  [none, none, some (1, 128, 0), none, none, some (1, 133, 2), none, none, some (0, 9, 3)]]
def mcp11 : List (List (Option (Nat × Nat × Nat))) := [[none, none, none, some (5, 0, 0), none, none, none, none, none, some (0, 11, 0), none, none, none, some (0, 11, 1)],
  [none, some (0, 11, 2), none, none, some (6, 7, 7), none, some (3, 85, 1), none, none, some (0, 11, 3), none, none, none, some (6, 4, 18), none, some (4, 54, 0)],
  [some (0, 11, 4), none, none, none, some (6, 9, 7), none, some (3, 114, 1), none, none, some (0, 11, 5), none, none, none, some (6, 6, 14), none, some (3, 74, 0)],
  [some (0, 11, 6), none, none, none, some (0, 11, 7), none, none, none, some (0, 11, 8), none, none, some (6, 5, 4), none, some (3, 64, 2)],
  [some (0, 11, 9), none, none, none, some (6, 10, 17), none, some (3, 123, 2), some (0, 11, 10), none, none, none, some (6, 3, 8), none, some (3, 43, 4)],
  [some (0, 11, 11), none, none, none, some (6, 2, 20), none, some (3, 29, 5), none, none, some (0, 11, 12), none, none, none, some (6, 1, 15), none, some (3, 5, 3)],
  [none, none, some (0, 11, 13), none, none, none, some (6, 8, 10), none, some (3, 102, 3), some (0, 11, 14), none, none, none, some (0, 11, 15)],
  [none, some (1, 183, 1), none, none, none, some (15, 0, 0), none, some (11, 0, 0), none, some (16, 0, 0), none, none, some (1, 89, 1)],
  [some (0, 7, 6), some (0, 7, 0), none, none, some (1, 56, 1), none, none, some (1, 116, 0), none, none, some (1, 78, 0), none, none, some (1, 34, 0)],
  [some (0, 4, 0), none, none, some (0, 4, 6), none, none, some (0, 4, 11), none, none, some (0, 4, 14), none, none, some (1, 58, 0)],
  [some (2, 317, 1), none, none, none, none, some (0, 9, 6), none, none, some (1, 55, 0), none, none, some (11, 1, 0), none, some (1, 166, 1)],
  [some (1, 121, 2), none, none, none, some (1, 168, 1), none, none, some (1, 70, 1), none, none, some (1, 67, 3), none, none, none, some (11, 2, 0)],
  [some (15, 2, 0), none, some (11, 3, 0), none, some (16, 2, 0), some (0, 6, 0), none, none, some (1, 35, 0), none, none, some (1, 76, 1), none, none, some (1, 169, 1)],
  [none, some (1, 167, 1), none, none, some (0, 6, 4), none, none, some (1, 77, 2), none, none, none, some (0, 6, 2), none, none, some (0, 6, 3)],
  [none, some (12, 0, 0), none, none, none, none, none, some (1, 82, 1), none, none, some (1, 80, 1), none, none, some (1, 46, 0)],
  [some (0, 3, 4), none, none, some (0, 3, 5), none, some (0, 3, 6), none, none, some (11, 4, 0), none, some (1, 53, 0), none, none, some (1, 52, 1)],
  [some (1, 33, 0), none, none, none, some (0, 2, 13), none, none, some (0, 2, 14), none, none, some (0, 6, 1), none, none, some (1, 60, 2)],
  [some (2, 319, 2), none, none, none, none, some (1, 173, 0), none, none, some (1, 164, 1), none, none, some (1, 81, 1), none, none, none, some (0, 6, 10)],
  [none, none, some (0, 6, 13), none, none, some (11, 5, 0), none, some (0, 6, 11), none, none, some (1, 19, 1), none, none, some (1, 21, 1)],
  [some (1, 22, 0), none, none, some (1, 12, 0), none, none, some (1, 18, 0), none, none, none, some (1, 7, 1), none, none, some (1, 62, 1)],
  [some (11, 6, 0), none, some (11, 7, 0), none, some (1, 25, 3), none, none, none, some (1, 8, 1), none, none, some (11, 8, 0), none, some (0, 4, 7)],
  [some (1, 63, 1), none, none, some (1, 143, 2), none, none, some (10, 100, 0), none, some (0, 4, 8), none, none, some (11, 9, 0), none, some (11, 10, 0), none, some (0, 6, 5)],
  [none, none, some (1, 75, 4), none, none, none, some (1, 165, 1), none, none, some (1, 104, 2), none, none, none, some (1, 106, 0)],
  [some (1, 112, 0), none, none, some (11, 11, 0), none, some (11, 12, 0), none, some (1, 107, 1), none, none, some (0, 8, 8), none, none, some (0, 8, 9)],
  [some (11, 13, 0), none, some (0, 6, 12), none, none, some (11, 14, 0), none, some (1, 84, 3), none, none, none, some (1, 127, 2), none, none, none, some (1, 129, 4)],
  [none, none, none, some (1, 132, 1), none, none, some (1, 13, 2), none, none, some (11, 15, 0), none, some (1, 79, 1), none, none, some (1, 83, 0)],
  [none, some (1, 61, 1), none, none, some (15, 1, 0), none, some (11, 16, 0), none, some (16, 1, 0), some (11, 17, 0), none, some (11, 18, 0), none, some (11, 19, 0), none, some (15, 3, 0)],
  [none, some (11, 20, 0), none, some (16, 3, 0), some (11, 21, 0)]]
def mcp12 : List (List (Option (Nat × Nat × Nat))) := [[none, some (5, 0, 0), none, none, none, none, none, none, none, some (0, 12, 3), none, none, none, some (0, 12, 8)],
  [none, some (0, 12, 9), none, none, some (7, 0, 0), none, some (0, 12, 10), none, none, some (0, 12, 11), none, none, some (0, 12, 12), none, none, some (0, 12, 13)],
  [none, none, some (0, 12, 18), none, none, some (0, 12, 19), none, none, some (0, 12, 20), none, none, some (0, 12, 21), none, none, some (0, 12, 22)],
  [none, some (0, 12, 23), none, none, some (0, 12, 24), none, none, some (0, 12, 25), none, none, some (0, 12, 26), none, none, some (0, 12, 27)],
  [some (0, 12, 28), none, none, some (0, 12, 29), none, none, none, some (0, 12, 30), none, none, some (0, 12, 31), none, none, some (0, 12, 32)],
  [some (0, 12, 33), none, none, some (0, 12, 34), none, none, some (0, 12, 35), none, none, some (0, 12, 36), none, none, some (0, 12, 38), none, none, some (0, 12, 39)],
  [none, none, some (0, 12, 40), none, none, some (0, 12, 41), none, none, some (0, 12, 42), none, none, some (0, 12, 43), none, none, some (0, 12, 44)],
  [none, some (0, 12, 45), none, none, some (0, 12, 46), none, none, some (0, 12, 47), none, none, some (0, 12, 48), none, none, some (0, 12, 51)],
  [some (0, 12, 0), none, none, some (0, 12, 1), none, none, some (0, 12, 2), none, none, some (0, 12, 4), none, none, some (1, 204, 1)],
  [some (0, 12, 5), none, none, some (0, 12, 6), none, none, some (1, 202, 0), none, none, some (2, 244, 1), none, none, none, some (1, 314, 2)],
  [none, some (9, 100000, 0), some (2, 240, 3), none, none, none, some (10, 27, 0), none, some (10, 97, 0), none, some (10, 18446744073709551615, 0), none, some (1, 307, 0)],
  [some (2, 306, 7), none, none, none, some (1, 253, 7), none, none, none, some (1, 293, 0), none, none, some (1, 273, 2), none, none, none, some (1, 292, 1)],
  [none, none, none, some (0, 12, 7), none, none, some (1, 257, 0), none, none, none, some (1, 297, 2), none, none, some (1, 195, 2)],
  [none, some (1, 283, 0), none, none, some (1, 206, 0), none, none, some (0, 12, 14), none, none, none, some (0, 12, 15), none, none, some (0, 12, 16)],
  [none, some (0, 12, 17), none, none, some (1, 245, 1), none, none, some (1, 205, 1), none, none, some (1, 215, 1), none, none, some (1, 248, 1)],
  [some (1, 304, 2), none, none, some (1, 247, 2), none, none, none, some (1, 232, 2), none, none, some (1, 276, 2), none, none, some (1, 193, 1)],
  [some (1, 237, 2), none, none, some (2, 261, 2), none, none, some (1, 300, 2), none, none, some (1, 264, 2), none, none, some (0, 12, 37), none, none, some (1, 265, 1)],
  [none, none, some (1, 252, 1), none, none, some (1, 249, 1), none, none, some (1, 302, 1), none, none, some (1, 201, 1), none, none, some (1, 227, 1)],
  [none, some (1, 272, 2), none, none, some (1, 216, 4), none, none, none, some (1, 260, 3), none, none, none, some (1, 251, 4)],
  [some (1, 210, 4), none, none, some (1, 296, 2), none, none, some (1, 256, 6), none, none, none, some (1, 255, 0), none, none, some (1, 288, 2)],
  [some (2, 192, 1), none, none, some (1, 311, 2), none, none, some (1, 289, 2), none, none, some (2, 268, 2), none, none, some (1, 312, 1), none, none, some (1, 309, 0)],
  [none, none, some (1, 225, 0), none, none, some (1, 234, 0), none, none, some (1, 310, 3), none, none, none, some (1, 223, 0), none, none, some (1, 196, 1)],
  [none, none, some (1, 259, 1), none, none, some (0, 12, 50), none, none, some (0, 12, 49), none, none, some (1, 241, 2), none, none, some (1, 224, 1)],
  [none, some (1, 233, 1), none, none, some (1, 230, 1), none, none, some (1, 228, 0), none, none, some (1, 229, 1), none, none, some (1, 286, 0)],
  [some (1, 236, 1), none, none, some (1, 267, 0), none, none, some (1, 200, 1), none, none, some (1, 277, 1), none, none, some (10, 100, 0), none, some (1, 246, 1)],
  [none, some (1, 243, 2), none, none, some (2, 274, 1), none, none, some (1, 242, 1), none, none, some (1, 279, 0), none, none, some (1, 263, 1)],
  [some (2, 250, 2), none, none, some (1, 211, 4), none, none, some (0, 12, 53), none, none, some (9, 1103515245, 0), some (1, 213, 0), none, none, some (0, 12, 52)],
  [some (1, 269, 3), none, none, none, some (1, 271, 3), none, none, none, some (1, 270, 2)]]
def mcp13 : List (List (Option (Nat × Nat × Nat))) := [[none, none, none, none, none, none, none, some (1, 161, 1), some (6, 11, 16), none, none, none, none, some (15, 0, 0), none, some (1, 184, 1)],
  [none, none, some (1, 186, 2), none, none, none, some (15, 1, 0), none, some (1, 170, 1), none, none, some (1, 155, 2), none, none, some (1, 185, 1)],
  [none, some (15, 2, 0), none, some (1, 172, 2), none, none, some (15, 3, 0), none, some (1, 181, 1), none, none, some (1, 144, 1), none, none, some (1, 176, 2)],
  [none, some (1, 150, 1), none, none, some (1, 149, 1), none, none, some (1, 138, 1), none, none, some (1, 188, 1), none, none, some (1, 140, 1)],
  [some (1, 180, 2), none, none, none, some (1, 151, 2), none, none, some (1, 158, 2), none, none, some (1, 174, 2), none, none, some (1, 177, 1)],
  [some (1, 157, 1), none, none, some (1, 141, 1), none, none, some (1, 182, 3), none, none, none, some (1, 137, 1), none, none, none, some (1, 189, 2)],
  [none, some (1, 160, 4), none, none, none, some (1, 139, 2), none, none, none, some (1, 162, 2), none, none, some (1, 148, 2), none, none, some (1, 146, 2)],
  [none, none, some (1, 187, 2), none, none, some (1, 178, 2), none, none, some (3, 136, 0), some (6, 12, 54), none, some (3, 190, 0), some (1, 153, 5)],
  [some (1, 221, 5), some (17, 336, 3), none, none, none, none, some (1, 258, 1), some (1, 298, 0), none, none, none, some (1, 152, 0), none, none, some (1, 220, 0), some (17, 347, 3)],
  [none, some (1, 299, 1), some (17, 349, 4), none, none, some (1, 303, 2), some (17, 338, 3), none, some (1, 275, 1), some (17, 332, 4), none, some (1, 226, 2), some (17, 348, 3), none, some (1, 301, 1), some (17, 339, 4)],
  [none, some (1, 280, 2), some (17, 345, 3), none, some (1, 294, 1), some (17, 326, 3), none, some (1, 207, 1), some (17, 341, 4), none, some (1, 284, 2), some (17, 330, 3), none, some (1, 218, 1), some (17, 329, 3)],
  [some (1, 217, 1), some (17, 322, 3), none, some (1, 194, 1), some (17, 351, 3), none, some (1, 308, 1), some (17, 324, 3), none, some (1, 198, 1), some (1, 142, 0), none, none, some (1, 203, 0), some (1, 156, 0)],
  [none, some (1, 231, 0), some (17, 344, 4), none, none, some (1, 291, 2), some (17, 331, 4), none, some (1, 219, 2), some (17, 334, 4), none, some (1, 238, 2), some (17, 340, 4), none, some (1, 281, 2), some (17, 342, 3)],
  [none, some (1, 285, 1), some (17, 333, 3), none, some (1, 235, 1), some (1, 163, 0), none, none, none, some (1, 266, 0), some (17, 325, 3), none, some (1, 199, 1), some (1, 179, 0)],
  [some (1, 290, 0), some (17, 346, 5), none, none, some (1, 295, 3), some (17, 321, 3), none, some (1, 191, 1), some (17, 352, 4), none, some (1, 313, 2), some (17, 335, 6), none, none, some (1, 254, 4), some (17, 323, 4)],
  [none, some (1, 197, 2), some (1, 154, 0), none, none, some (1, 222, 0), some (1, 171, 0), none, none, some (1, 278, 0), some (17, 337, 4), none, some (1, 262, 2), some (17, 328, 4), none, some (1, 214, 2)],
  [some (17, 327, 4), none, some (1, 209, 2), some (17, 350, 4), none, some (1, 305, 2), some (1, 147, 1), none, none, some (1, 212, 1), some (17, 343, 4), none, some (1, 287, 2), some (1, 159, 0)],
  [some (1, 239, 0), some (1, 175, 0), none, none, some (1, 282, 0), some (1, 145, 1), none, none, some (1, 208, 1)]]
def mcp14 : List (List (Option (Nat × Nat × Nat))) := []
def mcp15 : List (List (Option (Nat × Nat × Nat))) := [[],
  [],
  [],
  [],
  [],
  [],
  [],
  [],
  [],
  [],
  [],
  [],
  [],
  [],
  [],
  [],
  [none, none, none, none, none, none, none, none, none, some (9, 1431655765, 0), some (9, 858993459, 0), some (9, 252645135, 0)]]
def mcp16 : List (List (Option (Nat × Nat × Nat))) := []
def mCps : List (List (List (Option (Nat × Nat × Nat)))) := [mcp0, mcp1, mcp2, mcp3, mcp4, mcp5, mcp6, mcp7, mcp8, mcp9, mcp10, mcp11, mcp12, mcp13, mcp14, mcp15, mcp16]
def mcp (o i : Nat) : Option (Nat × Nat × Nat) := match mCps[o]? with
  | some t => (match t[i / 16]? with
    | some c => (match c[i % 16]? with
      | some x => x
      | none => none)
    | none => none)
  | none => none
/-- the String constants: class, entry, text -/
def mStrs : List (String × Nat × String) := [("PartingTrains", 119, "no such length of the tape"), ("PartingTrains", 171, "nothing such is told"), ("PartingTrains", 190, "no such minute"), ("PartingTrains", 194, "there is no land"), ("PartingTrains", 248, "no such want"), ("PartingTrains", 293, "no such wait"), ("PartingTrains", 320, "no such lateness"), ("PartingTrains", 322, "nothing such is spoilt"), ("PartingTrains", 331, "no such signs"), ("PartingTrains", 347, "no such minutes"), ("PartingTrains", 349, "the way is longer"), ("PartingTrains", 371, "no such number of places"), ("PartingTrains", 373, "nothing such of light engines"), ("PartingTrains", 384, "no such days"), ("PartingTrains", 389, "no such day"), ("PartingTrains", 409, "no such number of days"), ("PartingTrains", 422, "no such place"), ("PartingTrains", 425, "no fork"), ("PartingTrains", 427, "no such portion"), ("PartingTrains", 429, "bits of no portions"), ("PartingTrains", 433, "no such train"), ("PartingTrains", 436, "no such job"), ("PartingTrains$Reader", 74, "root"), ("PartingTrains$Reader", 100, "place"), ("PartingTrains$Reader", 105, "fork"), ("PartingTrains$Reader", 110, "portion"), ("PartingTrains$Reader", 118, "late"), ("PartingTrains$Reader", 123, "engine"), ("PartingTrains$Reader", 131, "want")]
