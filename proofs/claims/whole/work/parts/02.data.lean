/-! data of this claim, printed by our own program out of the tables: the words of methods, fields, code -/
noncomputable def x_cn : List String := ["LostBuyer$History", "LostBuyer$Laws", "LostBuyer$Notes", "LostBuyer$Reader", "LostBuyer$State", "LostBuyer$Tokens", "LostBuyer$Town", "LostBuyer$Walks", "LostBuyer", "LostBuyerModel", "LostBuyerLaw", "java/util/Arrays", "java/lang/String", "java/lang/StringLatin1", "jdk/internal/util/Preconditions", "java/lang/Math"]
noncomputable def x_T0 : u_T := fun k => match k with
  | 0 => ("LostBuyer$History", "many", "I", false)
  | 1 => ("LostBuyer$History", "next", "I", false)
  | _ => ("LostBuyer$History", "states", "[LLostBuyer$State;", true)
noncomputable def x_y0 : Nat → FieldType := fun k => match k with
  | 0 => .int
  | 1 => .int
  | _ => (.array (.object "LostBuyer$State"))
noncomputable def x_T1 : u_T := fun k => match k with
  | 0 => ("LostBuyer$Laws", "begin", "[I", true)
  | 1 => ("LostBuyer$Laws", "size", "I", false)
  | 2 => ("LostBuyer$Laws", "act", "[I", true)
  | 3 => ("LostBuyer$Laws", "with", "[I", true)
  | 4 => ("LostBuyer$Laws", "stack", "[I", true)
  | _ => ("LostBuyer$Laws", "vars", "[I", true)
noncomputable def x_y1 : Nat → FieldType := fun k => match k with
  | 0 => (.array .int)
  | 1 => .int
  | 2 => (.array .int)
  | 3 => (.array .int)
  | 4 => (.array .int)
  | _ => (.array .int)
noncomputable def x_T2 : u_T := fun k => match k with
  | 0 => ("LostBuyer$Notes", "many", "I", false)
  | 1 => ("LostBuyer$Notes", "who", "[I", true)
  | 2 => ("LostBuyer$Notes", "steps", "[I", true)
  | 3 => ("LostBuyer$Notes", "where", "[I", true)
  | 4 => ("LostBuyer$Notes", "so", "[Z", true)
  | _ => ("LostBuyer$Notes", "alike", "[I", true)
noncomputable def x_y2 : Nat → FieldType := fun k => match k with
  | 0 => .int
  | 1 => (.array .int)
  | 2 => (.array .int)
  | 3 => (.array .int)
  | 4 => (.array .boolean)
  | _ => (.array .int)
noncomputable def x_T3 : u_T := fun k => match k with
  | 0 => ("LostBuyer$Reader", "faultPlace", "I", false)
  | 1 => ("LostBuyer$Reader", "town", "LLostBuyer$Town;", false)
  | 2 => ("LostBuyer$Reader", "tokens", "LLostBuyer$Tokens;", true)
  | 3 => ("LostBuyer$Reader", "at", "I", false)
  | 4 => ("LostBuyer$Reader", "hard", "I", false)
  | 5 => ("LostBuyer$Reader", "soft", "I", false)
  | 6 => ("LostBuyer$Reader", "softPlace", "I", false)
  | 7 => ("LostBuyer$Reader", "cornerNames", "[J", true)
  | 8 => ("LostBuyer$Reader", "seekerNames", "[J", true)
  | _ => ("LostBuyer$Reader", "posts", "I", false)
noncomputable def x_y3 : Nat → FieldType := fun k => match k with
  | 0 => .int
  | 1 => (.object "LostBuyer$Town")
  | 2 => (.object "LostBuyer$Tokens")
  | 3 => .int
  | 4 => .int
  | 5 => .int
  | 6 => .int
  | 7 => (.array .long)
  | 8 => (.array .long)
  | _ => .int
noncomputable def x_T4 : u_T := fun k => match k with
  | 0 => ("LostBuyer$State", "day", "I", false)
  | 1 => ("LostBuyer$State", "fog", "I", false)
  | 2 => ("LostBuyer$State", "buyer", "I", false)
  | 3 => ("LostBuyer$State", "price", "I", false)
  | 4 => ("LostBuyer$State", "signs", "[I", true)
  | _ => ("LostBuyer$State", "whereabouts", "[I", true)
noncomputable def x_y4 : Nat → FieldType := fun k => match k with
  | 0 => .int
  | 1 => .int
  | 2 => .int
  | 3 => .int
  | 4 => (.array .int)
  | _ => (.array .int)
noncomputable def x_T5 : u_T := fun k => match k with
  | 0 => ("LostBuyer$Tokens", "kind", "[I", true)
  | 1 => ("LostBuyer$Tokens", "start", "[I", true)
  | _ => ("LostBuyer$Tokens", "value", "[J", true)
noncomputable def x_y5 : Nat → FieldType := fun k => match k with
  | 0 => (.array .int)
  | 1 => (.array .int)
  | _ => (.array .long)
noncomputable def x_T6 : u_T := fun k => match k with
  | 0 => ("LostBuyer$Town", "corners", "I", false)
  | 1 => ("LostBuyer$Town", "lanes", "I", false)
  | 2 => ("LostBuyer$Town", "seekers", "I", false)
  | 3 => ("LostBuyer$Town", "dark", "[I", true)
  | 4 => ("LostBuyer$Town", "one", "[I", true)
  | 5 => ("LostBuyer$Town", "other", "[I", true)
  | 6 => ("LostBuyer$Town", "far", "[I", true)
  | 7 => ("LostBuyer$Town", "sense", "[I", true)
  | 8 => ("LostBuyer$Town", "home", "[I", true)
  | 9 => ("LostBuyer$Town", "post", "[I", true)
  | 10 => ("LostBuyer$Town", "house", "I", false)
  | 11 => ("LostBuyer$Town", "wrong", "I", false)
  | 12 => ("LostBuyer$Town", "mist", "I", false)
  | 13 => ("LostBuyer$Town", "seed", "I", false)
  | 14 => ("LostBuyer$Town", "laws", "LLostBuyer$Laws;", true)
  | 15 => ("LostBuyer$Town", "degree", "[I", true)
  | 16 => ("LostBuyer$Town", "laneBits", "[I", true)
  | 17 => ("LostBuyer$Town", "lanesOf", "[I", true)
  | 18 => ("LostBuyer$Town", "milesToHouse", "[I", true)
  | _ => ("LostBuyer$Town", "cost", "[I", true)
noncomputable def x_y6 : Nat → FieldType := fun k => match k with
  | 0 => .int
  | 1 => .int
  | 2 => .int
  | 3 => (.array .int)
  | 4 => (.array .int)
  | 5 => (.array .int)
  | 6 => (.array .int)
  | 7 => (.array .int)
  | 8 => (.array .int)
  | 9 => (.array .int)
  | 10 => .int
  | 11 => .int
  | 12 => .int
  | 13 => .int
  | 14 => (.object "LostBuyer$Laws")
  | 15 => (.array .int)
  | 16 => (.array .int)
  | 17 => (.array .int)
  | 18 => (.array .int)
  | _ => (.array .int)
noncomputable def x_T7 : u_T := fun k => match k with
  | 0 => ("LostBuyer$Walks", "many", "I", false)
  | 1 => ("LostBuyer$Walks", "at", "[I", true)
  | 2 => ("LostBuyer$Walks", "walked", "[I", true)
  | 3 => ("LostBuyer$Walks", "steps", "[I", true)
  | 4 => ("LostBuyer$Walks", "strayed", "[I", true)
  | 5 => ("LostBuyer$Walks", "cases", "[I", true)
  | 6 => ("LostBuyer$Walks", "seen", "[I", true)
  | 7 => ("LostBuyer$Walks", "used", "[I", true)
  | 8 => ("LostBuyer$Walks", "again", "[Z", true)
  | 9 => ("LostBuyer$Walks", "path", "[I", true)
  | 10 => ("LostBuyer$Walks", "quarters", "[I", true)
  | 11 => ("LostBuyer$Walks", "ends", "[Z", true)
  | 12 => ("LostBuyer$Walks", "takes", "[I", true)
  | 13 => ("LostBuyer$Walks", "leads", "[I", true)
  | 14 => ("LostBuyer$Walks", "far", "[I", true)
  | 15 => ("LostBuyer$Walks", "house", "I", false)
  | _ => ("LostBuyer$Walks", "enough", "I", false)
noncomputable def x_y7 : Nat → FieldType := fun k => match k with
  | 0 => .int
  | 1 => (.array .int)
  | 2 => (.array .int)
  | 3 => (.array .int)
  | 4 => (.array .int)
  | 5 => (.array .int)
  | 6 => (.array .int)
  | 7 => (.array .int)
  | 8 => (.array .boolean)
  | 9 => (.array .int)
  | 10 => (.array .int)
  | 11 => (.array .boolean)
  | 12 => (.array .int)
  | 13 => (.array .int)
  | 14 => (.array .int)
  | 15 => .int
  | _ => .int
noncomputable def x_T8 : u_T := fun k => match k with
  | 0 => ("LostBuyer", "tape", "[B", true)
  | 1 => ("LostBuyer", "fed", "I", false)
  | 2 => ("LostBuyer", "faultPlace", "I", false)
  | 3 => ("LostBuyer", "reader", "LLostBuyer$Reader;", true)
  | 4 => ("LostBuyer", "town", "LLostBuyer$Town;", false)
  | 5 => ("LostBuyer", "now", "LLostBuyer$State;", true)
  | 6 => ("LostBuyer", "guess", "LLostBuyer$State;", true)
  | 7 => ("LostBuyer", "history", "LLostBuyer$History;", true)
  | 8 => ("LostBuyer", "slots", "[LLostBuyer$State;", true)
  | 9 => ("LostBuyer", "held", "[Z", true)
  | 10 => ("LostBuyer", "notes", "LLostBuyer$Notes;", true)
  | _ => ("LostBuyer", "walks", "LLostBuyer$Walks;", true)
noncomputable def x_y8 : Nat → FieldType := fun k => match k with
  | 0 => (.array .byte)
  | 1 => .int
  | 2 => .int
  | 3 => (.object "LostBuyer$Reader")
  | 4 => (.object "LostBuyer$Town")
  | 5 => (.object "LostBuyer$State")
  | 6 => (.object "LostBuyer$State")
  | 7 => (.object "LostBuyer$History")
  | 8 => (.array (.object "LostBuyer$State"))
  | 9 => (.array .boolean)
  | 10 => (.object "LostBuyer$Notes")
  | _ => (.object "LostBuyer$Walks")
noncomputable def x_T9 : u_T := fun k => match k with
  | 0 => ("LostBuyerModel", "thrown", "I", false)
  | 1 => ("LostBuyerModel", "tape", "[B", true)
  | 2 => ("LostBuyerModel", "taped", "I", false)
  | 3 => ("LostBuyerModel", "text", "[B", true)
  | 4 => ("LostBuyerModel", "size", "I", false)
  | 5 => ("LostBuyerModel", "tKind", "[I", true)
  | 6 => ("LostBuyerModel", "tPlace", "[I", true)
  | 7 => ("LostBuyerModel", "tValue", "[I", true)
  | 8 => ("LostBuyerModel", "tName", "[J", true)
  | 9 => ("LostBuyerModel", "keys", "[J", true)
  | 10 => ("LostBuyerModel", "tokens", "I", false)
  | 11 => ("LostBuyerModel", "t", "I", false)
  | 12 => ("LostBuyerModel", "open", "I", false)
  | 13 => ("LostBuyerModel", "fault", "I", false)
  | 14 => ("LostBuyerModel", "faultPlace", "I", false)
  | 15 => ("LostBuyerModel", "worst", "I", false)
  | 16 => ("LostBuyerModel", "worstPlace", "I", false)
  | 17 => ("LostBuyerModel", "place", "I", false)
  | 18 => ("LostBuyerModel", "live", "I", false)
  | 19 => ("LostBuyerModel", "side", "I", false)
  | 20 => ("LostBuyerModel", "names", "I", false)
  | 21 => ("LostBuyerModel", "nameOf", "[J", true)
  | 22 => ("LostBuyerModel", "nameAt", "[I", true)
  | 23 => ("LostBuyerModel", "corners", "[I", true)
  | 24 => ("LostBuyerModel", "darkOf", "[I", true)
  | 25 => ("LostBuyerModel", "postTold", "[I", true)
  | 26 => ("LostBuyerModel", "lanes", "[I", true)
  | 27 => ("LostBuyerModel", "oneOf", "[I", true)
  | 28 => ("LostBuyerModel", "otherOf", "[I", true)
  | 29 => ("LostBuyerModel", "longOf", "[I", true)
  | 30 => ("LostBuyerModel", "postMany", "[I", true)
  | 31 => ("LostBuyerModel", "seekers", "[I", true)
  | 32 => ("LostBuyerModel", "senseOf", "[I", true)
  | 33 => ("LostBuyerModel", "startOf", "[I", true)
  | 34 => ("LostBuyerModel", "house", "[I", true)
  | 35 => ("LostBuyerModel", "wrongMiles", "[I", true)
  | 36 => ("LostBuyerModel", "mist", "[I", true)
  | 37 => ("LostBuyerModel", "seed", "[I", true)
  | 38 => ("LostBuyerModel", "lawFirst", "[I", true)
  | 39 => ("LostBuyerModel", "lawLast", "[I", true)
  | 40 => ("LostBuyerModel", "branches", "I", false)
  | 41 => ("LostBuyerModel", "hasTest", "[Z", true)
  | 42 => ("LostBuyerModel", "testFrom", "[I", true)
  | 43 => ("LostBuyerModel", "testMid", "[I", true)
  | 44 => ("LostBuyerModel", "testTo", "[I", true)
  | 45 => ("LostBuyerModel", "termTo", "[I", true)
  | 46 => ("LostBuyerModel", "codes", "I", false)
  | 47 => ("LostBuyerModel", "code", "[I", true)
  | 48 => ("LostBuyerModel", "codeInt", "[I", true)
  | 49 => ("LostBuyerModel", "waits", "[I", true)
  | 50 => ("LostBuyerModel", "waiting", "I", false)
  | 51 => ("LostBuyerModel", "variables", "[I", true)
  | 52 => ("LostBuyerModel", "pile", "[I", true)
  | 53 => ("LostBuyerModel", "isBroken", "Z", false)
  | 54 => ("LostBuyerModel", "now", "[I", true)
  | 55 => ("LostBuyerModel", "row", "[I", true)
  | 56 => ("LostBuyerModel", "lots", "I", false)
  | 57 => ("LostBuyerModel", "milesTo", "[I", true)
  | 58 => ("LostBuyerModel", "straysAt", "[I", true)
  | 59 => ("LostBuyerModel", "showsAt", "[I", true)
  | 60 => ("LostBuyerModel", "behindAt", "[I", true)
  | 61 => ("LostBuyerModel", "atBy", "[I", true)
  | 62 => ("LostBuyerModel", "walkSteps", "I", false)
  | 63 => ("LostBuyerModel", "walkMiles", "I", false)
  | 64 => ("LostBuyerModel", "walkLanes", "I", false)
  | 65 => ("LostBuyerModel", "walkCorners", "I", false)
  | 66 => ("LostBuyerModel", "walkCases", "I", false)
  | 67 => ("LostBuyerModel", "undos", "I", false)
  | 68 => ("LostBuyerModel", "history", "[I", true)
  | 69 => ("LostBuyerModel", "signsTo", "[I", true)
  | 70 => ("LostBuyerModel", "tolds", "I", false)
  | 71 => ("LostBuyerModel", "toldWho", "[I", true)
  | 72 => ("LostBuyerModel", "toldBehind", "[I", true)
  | 73 => ("LostBuyerModel", "toldCorner", "[I", true)
  | 74 => ("LostBuyerModel", "toldSo", "[Z", true)
  | 75 => ("LostBuyerModel", "waysBy", "[I", true)
  | 76 => ("LostBuyerModel", "isHeld", "[Z", true)
  | _ => ("LostBuyerModel", "heldRows", "[I", true)
noncomputable def x_y9 : Nat → FieldType := fun k => match k with
  | 0 => .int
  | 1 => (.array .byte)
  | 2 => .int
  | 3 => (.array .byte)
  | 4 => .int
  | 5 => (.array .int)
  | 6 => (.array .int)
  | 7 => (.array .int)
  | 8 => (.array .long)
  | 9 => (.array .long)
  | 10 => .int
  | 11 => .int
  | 12 => .int
  | 13 => .int
  | 14 => .int
  | 15 => .int
  | 16 => .int
  | 17 => .int
  | 18 => .int
  | 19 => .int
  | 20 => .int
  | 21 => (.array .long)
  | 22 => (.array .int)
  | 23 => (.array .int)
  | 24 => (.array .int)
  | 25 => (.array .int)
  | 26 => (.array .int)
  | 27 => (.array .int)
  | 28 => (.array .int)
  | 29 => (.array .int)
  | 30 => (.array .int)
  | 31 => (.array .int)
  | 32 => (.array .int)
  | 33 => (.array .int)
  | 34 => (.array .int)
  | 35 => (.array .int)
  | 36 => (.array .int)
  | 37 => (.array .int)
  | 38 => (.array .int)
  | 39 => (.array .int)
  | 40 => .int
  | 41 => (.array .boolean)
  | 42 => (.array .int)
  | 43 => (.array .int)
  | 44 => (.array .int)
  | 45 => (.array .int)
  | 46 => .int
  | 47 => (.array .int)
  | 48 => (.array .int)
  | 49 => (.array .int)
  | 50 => .int
  | 51 => (.array .int)
  | 52 => (.array .int)
  | 53 => .boolean
  | 54 => (.array .int)
  | 55 => (.array .int)
  | 56 => .int
  | 57 => (.array .int)
  | 58 => (.array .int)
  | 59 => (.array .int)
  | 60 => (.array .int)
  | 61 => (.array .int)
  | 62 => .int
  | 63 => .int
  | 64 => .int
  | 65 => .int
  | 66 => .int
  | 67 => .int
  | 68 => (.array .int)
  | 69 => (.array .int)
  | 70 => .int
  | 71 => (.array .int)
  | 72 => (.array .int)
  | 73 => (.array .int)
  | 74 => (.array .boolean)
  | 75 => (.array .int)
  | 76 => (.array .boolean)
  | _ => (.array .int)
noncomputable abbrev x_cl : List vw_C := [("LostBuyer$History", x_T0, 3), ("LostBuyer$Laws", x_T1, 6), ("LostBuyer$Notes", x_T2, 6), ("LostBuyer$Reader", x_T3, 10), ("LostBuyer$State", x_T4, 6), ("LostBuyer$Tokens", x_T5, 3), ("LostBuyer$Town", x_T6, 20), ("LostBuyer$Walks", x_T7, 17), ("LostBuyer", x_T8, 12), ("LostBuyerModel", x_T9, 78)]
noncomputable def x_yt (ci : Nat) : Nat → FieldType := match ci with
  | 0 => x_y0
  | 1 => x_y1
  | 2 => x_y2
  | 3 => x_y3
  | 4 => x_y4
  | 5 => x_y5
  | 6 => x_y6
  | 7 => x_y7
  | 8 => x_y8
  | _ => x_y9
noncomputable def x_sh (k : Nat) : Nat × Nat := bif Nat.blt k 109 then (bif Nat.blt k 54 then (bif Nat.blt k 27 then (bif Nat.blt k 13 then (bif Nat.blt k 6 then (bif Nat.blt k 3 then (bif Nat.blt k 1 then ((0, 8)) else (bif Nat.blt k 2 then ((2, 2000)) else ((0, 3)))) else (bif Nat.blt k 4 then ((0, 5)) else (bif Nat.blt k 5 then ((1, 402)) else ((1, 402))))) else (bif Nat.blt k 9 then (bif Nat.blt k 7 then ((4, 402)) else (bif Nat.blt k 8 then ((0, 6)) else ((1, 7)))) else (bif Nat.blt k 11 then (bif Nat.blt k 10 then ((1, 10)) else ((1, 10))) else (bif Nat.blt k 12 then ((1, 10)) else ((1, 5)))))) else (bif Nat.blt k 20 then (bif Nat.blt k 16 then (bif Nat.blt k 14 then ((1, 5)) else (bif Nat.blt k 15 then ((1, 7)) else ((0, 1)))) else (bif Nat.blt k 18 then (bif Nat.blt k 17 then ((1, 4)) else ((1, 400))) else (bif Nat.blt k 19 then ((1, 400)) else ((1, 16))))) else (bif Nat.blt k 23 then (bif Nat.blt k 21 then ((1, 9)) else (bif Nat.blt k 22 then ((1, 7)) else ((1, 7)))) else (bif Nat.blt k 25 then (bif Nat.blt k 24 then ((1, 70)) else ((1, 7))) else (bif Nat.blt k 26 then ((1, 7)) else ((4, 7))))))) else (bif Nat.blt k 40 then (bif Nat.blt k 33 then (bif Nat.blt k 30 then (bif Nat.blt k 28 then ((4, 5)) else (bif Nat.blt k 29 then ((0, 4)) else ((1, 7)))) else (bif Nat.blt k 31 then ((1, 5)) else (bif Nat.blt k 32 then ((0, 0)) else ((5, 40))))) else (bif Nat.blt k 36 then (bif Nat.blt k 34 then ((5, 3)) else (bif Nat.blt k 35 then ((3, 3)) else ((0, 2)))) else (bif Nat.blt k 38 then (bif Nat.blt k 37 then ((1, 20)) else ((1, 20))) else (bif Nat.blt k 39 then ((1, 20)) else ((3, 20)))))) else (bif Nat.blt k 47 then (bif Nat.blt k 43 then (bif Nat.blt k 41 then ((1, 63)) else (bif Nat.blt k 42 then ((0, 7)) else ((1, 256)))) else (bif Nat.blt k 45 then (bif Nat.blt k 44 then ((1, 256)) else ((1, 256))) else (bif Nat.blt k 46 then ((1, 256)) else ((1, 256))))) else (bif Nat.blt k 50 then (bif Nat.blt k 48 then ((1, 256)) else (bif Nat.blt k 49 then ((1, 256)) else ((3, 256)))) else (bif Nat.blt k 52 then (bif Nat.blt k 51 then ((1, 256)) else ((1, 7))) else (bif Nat.blt k 53 then ((3, 7)) else ((1, 14)))))))) else (bif Nat.blt k 81 then (bif Nat.blt k 67 then (bif Nat.blt k 60 then (bif Nat.blt k 57 then (bif Nat.blt k 55 then ((1, 14)) else (bif Nat.blt k 56 then ((1, 14)) else ((0, 9)))) else (bif Nat.blt k 58 then ((2, 2000)) else (bif Nat.blt k 59 then ((2, 2000)) else ((1, 403))))) else (bif Nat.blt k 63 then (bif Nat.blt k 61 then ((1, 403)) else (bif Nat.blt k 62 then ((1, 403)) else ((4, 403)))) else (bif Nat.blt k 65 then (bif Nat.blt k 64 then ((4, 24)) else ((4, 12))) else (bif Nat.blt k 66 then ((1, 12)) else ((1, 2)))))) else (bif Nat.blt k 74 then (bif Nat.blt k 70 then (bif Nat.blt k 68 then ((1, 14)) else (bif Nat.blt k 69 then ((1, 14)) else ((1, 2)))) else (bif Nat.blt k 72 then (bif Nat.blt k 71 then ((1, 20)) else ((1, 20))) else (bif Nat.blt k 73 then ((1, 20)) else ((1, 2))))) else (bif Nat.blt k 77 then (bif Nat.blt k 75 then ((1, 2)) else (bif Nat.blt k 76 then ((1, 10)) else ((1, 10)))) else (bif Nat.blt k 79 then (bif Nat.blt k 78 then ((1, 2)) else ((1, 2))) else (bif Nat.blt k 80 then ((1, 2)) else ((1, 2))))))) else (bif Nat.blt k 95 then (bif Nat.blt k 88 then (bif Nat.blt k 84 then (bif Nat.blt k 82 then ((1, 8)) else (bif Nat.blt k 83 then ((1, 8)) else ((3, 260)))) else (bif Nat.blt k 86 then (bif Nat.blt k 85 then ((1, 260)) else ((1, 260))) else (bif Nat.blt k 87 then ((1, 260)) else ((1, 260))))) else (bif Nat.blt k 91 then (bif Nat.blt k 89 then ((1, 840)) else (bif Nat.blt k 90 then ((1, 840)) else ((1, 64)))) else (bif Nat.blt k 93 then (bif Nat.blt k 92 then ((1, 9)) else ((1, 400))) else (bif Nat.blt k 94 then ((1, 16)) else ((1, 16)))))) else (bif Nat.blt k 102 then (bif Nat.blt k 98 then (bif Nat.blt k 96 then ((1, 7)) else (bif Nat.blt k 97 then ((1, 7)) else ((1, 7)))) else (bif Nat.blt k 100 then (bif Nat.blt k 99 then ((1, 7)) else ((1, 9))) else (bif Nat.blt k 101 then ((1, 640)) else ((1, 7))))) else (bif Nat.blt k 105 then (bif Nat.blt k 103 then ((1, 20)) else (bif Nat.blt k 104 then ((1, 20)) else ((1, 20)))) else (bif Nat.blt k 107 then (bif Nat.blt k 106 then ((3, 20)) else ((1, 63))) else (bif Nat.blt k 108 then ((3, 3)) else ((1, 48))))))))) else (bif Nat.beq k 900 then (8, 0) else bif Nat.beq k 901 then (6, 12) else bif Nat.beq k 902 then (7, 0) else (9, 0))
noncomputable def x_aol : List (Nat × Nat) := [(0, 0), (1, 0), (2, 0), (3, 0), (4, 0), (5, 0), (6, 0), (7, 0), (8, 0), (9, 0), (10, 0), (11, 0), (12, 0), (13, 0), (14, 0), (15, 0), (16, 0), (17, 0), (18, 0), (19, 0), (20, 0), (21, 0), (22, 0), (23, 0), (24, 0), (25, 0), (26, 0), (27, 0), (7, 1), (8, 1), (9, 1), (10, 1), (11, 1), (12, 1), (13, 1), (14, 1), (15, 1), (16, 1), (17, 1), (18, 1), (19, 1), (20, 1), (21, 1), (22, 1), (23, 1), (24, 1), (25, 1), (28, 0), (29, 0), (30, 0), (28, 1), (29, 1), (30, 1), (31, 0), (32, 0), (28, 2), (29, 2), (30, 2), (28, 3), (29, 3), (30, 3), (28, 4), (29, 4), (30, 4), (28, 5), (29, 5), (30, 5), (28, 6), (29, 6), (30, 6), (28, 7), (29, 7), (30, 7), (28, 8), (29, 8), (30, 8), (28, 9), (29, 9), (30, 9), (28, 10), (29, 10), (30, 10), (28, 11), (29, 11), (30, 11), (28, 12), (29, 12), (30, 12), (28, 13), (29, 13), (30, 13), (28, 14), (29, 14), (30, 14), (28, 15), (29, 15), (30, 15), (28, 16), (29, 16), (30, 16), (28, 17), (29, 17), (30, 17), (28, 18), (29, 18), (30, 18), (28, 19), (29, 19), (30, 19), (28, 20), (29, 20), (30, 20), (28, 21), (29, 21), (30, 21), (28, 22), (29, 22), (30, 22), (28, 23), (29, 23), (30, 23), (28, 24), (29, 24), (30, 24), (28, 25), (29, 25), (30, 25), (28, 26), (29, 26), (30, 26), (28, 27), (29, 27), (30, 27), (28, 28), (29, 28), (30, 28), (28, 29), (29, 29), (30, 29), (28, 30), (29, 30), (30, 30), (28, 31), (29, 31), (30, 31), (28, 32), (29, 32), (30, 32), (28, 33), (29, 33), (30, 33), (28, 34), (29, 34), (30, 34), (28, 35), (29, 35), (30, 35), (28, 36), (29, 36), (30, 36), (28, 37), (29, 37), (30, 37), (28, 38), (29, 38), (30, 38), (28, 39), (29, 39), (30, 39), (28, 40), (29, 40), (30, 40), (28, 41), (29, 41), (30, 41), (33, 0), (28, 42), (29, 42), (30, 42), (28, 43), (29, 43), (30, 43), (28, 44), (29, 44), (30, 44), (34, 0), (35, 0), (36, 0), (37, 0), (38, 0), (39, 0), (40, 0), (41, 0), (42, 0), (43, 0), (44, 0), (45, 0), (46, 0), (47, 0), (48, 0), (49, 0), (50, 0), (51, 0), (52, 0), (53, 0), (54, 0), (55, 0), (56, 0), (57, 0), (58, 0), (59, 0), (60, 0), (61, 0), (62, 0), (63, 0), (64, 0), (65, 0), (66, 0), (67, 0), (68, 0), (69, 0), (70, 0), (71, 0), (72, 0), (73, 0), (74, 0), (75, 0), (76, 0), (77, 0), (78, 0), (79, 0), (80, 0), (81, 0), (82, 0), (83, 0), (84, 0), (85, 0), (86, 0), (87, 0), (88, 0), (89, 0), (90, 0), (91, 0), (92, 0), (93, 0), (94, 0), (95, 0), (96, 0), (97, 0), (98, 0), (99, 0), (100, 0), (101, 0), (102, 0), (103, 0), (104, 0), (105, 0), (106, 0), (107, 0), (108, 0)]
noncomputable def x_NC : Nat := 260
noncomputable def x_RT (t : Nat) : Nat → Nat → Nat → Option (Nat × Nat) := fun g i f => bif Nat.blt g 31 then (bif Nat.blt g 7 then (bif Nat.blt g 2 then (bif Nat.beq g 0 then (bif Nat.beq f 0 then some (1, 0) else (bif Nat.beq f 3 then some (2, 0) else (bif Nat.beq f 4 then some (7, t) else (bif Nat.beq f 5 then some (28, 0) else (bif Nat.beq f 6 then some (28, 1) else (bif Nat.beq f 7 then some (31, 0) else (bif Nat.beq f 8 then some (33, 0) else (bif Nat.beq f 9 then some (34, 0) else (bif Nat.beq f 10 then some (35, 0) else (bif Nat.beq f 11 then some (41, 0) else (none))))))))))) else none) else (bif Nat.blt g 3 then (bif Nat.beq g 2 then (bif Nat.beq f 1 then some (7, 1 - t) else (bif Nat.beq f 2 then some (3, 0) else (bif Nat.beq f 7 then some (26, 0) else (bif Nat.beq f 8 then some (27, 0) else (none))))) else none) else (bif Nat.beq g 3 then (bif Nat.beq f 0 then some (4, 0) else (bif Nat.beq f 1 then some (5, 0) else (bif Nat.beq f 2 then some (6, 0) else (none)))) else none))) else (bif Nat.blt g 15 then (bif Nat.beq g 7 then (bif Nat.beq f 3 then some (8, i) else (bif Nat.beq f 4 then some (9, i) else (bif Nat.beq f 5 then some (10, i) else (bif Nat.beq f 6 then some (11, i) else (bif Nat.beq f 7 then some (12, i) else (bif Nat.beq f 8 then some (13, i) else (bif Nat.beq f 9 then some (14, i) else (bif Nat.beq f 14 then some (15, i) else (bif Nat.beq f 15 then some (21, i) else (bif Nat.beq f 16 then some (22, i) else (bif Nat.beq f 17 then some (23, i) else (bif Nat.beq f 18 then some (24, i) else (bif Nat.beq f 19 then some (25, i) else (none)))))))))))))) else none) else (bif Nat.blt g 28 then (bif Nat.beq g 15 then (bif Nat.beq f 0 then some (16, i) else (bif Nat.beq f 2 then some (17, i) else (bif Nat.beq f 3 then some (18, i) else (bif Nat.beq f 4 then some (19, i) else (bif Nat.beq f 5 then some (20, i) else (none)))))) else none) else (bif Nat.beq g 28 then (bif Nat.beq f 4 then some (29, i) else (bif Nat.beq f 5 then some (30, i) else (none))) else none)))) else (bif Nat.blt g 35 then (bif Nat.blt g 32 then (bif Nat.beq g 31 then (bif Nat.beq f 2 then some (32, 0) else (none)) else none) else (bif Nat.blt g 33 then (bif Nat.beq g 32 then (some (28, f + 2)) else none) else (bif Nat.beq g 33 then (some (28, f + 42)) else none))) else (bif Nat.blt g 41 then (bif Nat.beq g 35 then (bif Nat.beq f 1 then some (36, 0) else (bif Nat.beq f 2 then some (37, 0) else (bif Nat.beq f 3 then some (38, 0) else (bif Nat.beq f 4 then some (39, 0) else (bif Nat.beq f 5 then some (40, 0) else (none)))))) else none) else (bif Nat.blt g 56 then (bif Nat.beq g 41 then (bif Nat.beq f 1 then some (42, 0) else (bif Nat.beq f 2 then some (43, 0) else (bif Nat.beq f 3 then some (44, 0) else (bif Nat.beq f 4 then some (45, 0) else (bif Nat.beq f 5 then some (46, 0) else (bif Nat.beq f 6 then some (47, 0) else (bif Nat.beq f 7 then some (48, 0) else (bif Nat.beq f 8 then some (49, 0) else (bif Nat.beq f 9 then some (50, 0) else (bif Nat.beq f 10 then some (51, 0) else (bif Nat.beq f 11 then some (52, 0) else (bif Nat.beq f 12 then some (53, 0) else (bif Nat.beq f 13 then some (54, 0) else (bif Nat.beq f 14 then some (55, 0) else (none))))))))))))))) else none) else (bif Nat.beq g 56 then (bif Nat.beq f 1 then some (57, 0) else (bif Nat.beq f 3 then some (58, 0) else (bif Nat.beq f 5 then some (59, 0) else (bif Nat.beq f 6 then some (60, 0) else (bif Nat.beq f 7 then some (61, 0) else (bif Nat.beq f 8 then some (62, 0) else (bif Nat.beq f 9 then some (63, 0) else (bif Nat.beq f 21 then some (64, 0) else (bif Nat.beq f 22 then some (65, 0) else (bif Nat.beq f 23 then some (66, 0) else (bif Nat.beq f 24 then some (67, 0) else (bif Nat.beq f 25 then some (68, 0) else (bif Nat.beq f 26 then some (69, 0) else (bif Nat.beq f 27 then some (70, 0) else (bif Nat.beq f 28 then some (71, 0) else (bif Nat.beq f 29 then some (72, 0) else (bif Nat.beq f 30 then some (73, 0) else (bif Nat.beq f 31 then some (74, 0) else (bif Nat.beq f 32 then some (75, 0) else (bif Nat.beq f 33 then some (76, 0) else (bif Nat.beq f 34 then some (77, 0) else (bif Nat.beq f 35 then some (78, 0) else (bif Nat.beq f 36 then some (79, 0) else (bif Nat.beq f 37 then some (80, 0) else (bif Nat.beq f 38 then some (81, 0) else (bif Nat.beq f 39 then some (82, 0) else (bif Nat.beq f 41 then some (83, 0) else (bif Nat.beq f 42 then some (84, 0) else (bif Nat.beq f 43 then some (85, 0) else (bif Nat.beq f 44 then some (86, 0) else (bif Nat.beq f 45 then some (87, 0) else (bif Nat.beq f 47 then some (88, 0) else (bif Nat.beq f 48 then some (89, 0) else (bif Nat.beq f 49 then some (90, 0) else (bif Nat.beq f 51 then some (91, 0) else (bif Nat.beq f 52 then some (92, 0) else (bif Nat.beq f 54 then some (93, 0) else (bif Nat.beq f 55 then some (94, 0) else (bif Nat.beq f 57 then some (95, 0) else (bif Nat.beq f 58 then some (96, 0) else (bif Nat.beq f 59 then some (97, 0) else (bif Nat.beq f 60 then some (98, 0) else (bif Nat.beq f 61 then some (99, 0) else (bif Nat.beq f 68 then some (100, 0) else (bif Nat.beq f 69 then some (101, 0) else (bif Nat.beq f 71 then some (102, 0) else (bif Nat.beq f 72 then some (103, 0) else (bif Nat.beq f 73 then some (104, 0) else (bif Nat.beq f 74 then some (105, 0) else (bif Nat.beq f 75 then some (106, 0) else (bif Nat.beq f 76 then some (107, 0) else (bif Nat.beq f 77 then some (108, 0) else (none))))))))))))))))))))))))))))))))))))))))))))))))))))) else none))))
noncomputable def x_Z0 : Nat → Nat → Nat → Int := fun g i j => bif Nat.blt g 56 then (bif Nat.blt g 7 then (bif Nat.blt g 2 then (bif Nat.beq g 0 then (bif Nat.beq j 2 then (-1) else (0)) else 0) else (bif Nat.beq g 2 then (bif Nat.beq j 0 then (-1) else (0)) else 0)) else (bif Nat.blt g 16 then (bif Nat.beq g 7 then (bif Nat.beq j 11 then (1) else (0)) else 0) else (bif Nat.blt g 28 then (bif Nat.beq g 16 then ((-1)) else 0) else (bif Nat.beq g 28 then (bif Nat.beq j 2 then (-2) else (0)) else 0)))) else (bif Nat.blt g 78 then (bif Nat.blt g 63 then (bif Nat.beq g 56 then (bif Nat.beq j 17 then (-1) else (0)) else 0) else (bif Nat.blt g 68 then (bif Nat.beq g 63 then (bif Nat.beq j 0 then (51382989) else (bif Nat.beq j 1 then (237308) else (bif Nat.beq j 2 then (4562600) else (bif Nat.beq j 3 then (326396) else (bif Nat.beq j 4 then (275393025) else (bif Nat.beq j 5 then (283613770) else (bif Nat.beq j 6 then (33850) else (bif Nat.beq j 7 then (3288295) else (bif Nat.beq j 8 then (212437383013) else (bif Nat.beq j 9 then (12588757) else (bif Nat.beq j 10 then (262973) else (bif Nat.beq j 11 then (377761) else (bif Nat.beq j 12 then (249) else (bif Nat.beq j 13 then (399641) else (bif Nat.beq j 14 then (107681) else (bif Nat.beq j 15 then (10206518) else (bif Nat.beq j 16 then (79958) else (bif Nat.beq j 17 then (4786) else (bif Nat.beq j 18 then (247516) else (bif Nat.beq j 19 then (2968) else (bif Nat.beq j 20 then (6407335) else (bif Nat.beq j 21 then (12387257) else (bif Nat.beq j 22 then (385240) else (bif Nat.beq j 23 then (7094782) else (0))))))))))))))))))))))))) else 0) else (bif Nat.beq g 68 then ((-1)) else 0))) else (bif Nat.blt g 93 then (bif Nat.beq g 78 then (bif Nat.beq j 0 then (1) else (bif Nat.beq j 1 then (1) else (0))) else 0) else (bif Nat.blt g 94 then (bif Nat.beq g 93 then (bif Nat.beq j 5 then (-1) else (bif Nat.beq j 6 then (-1) else (bif Nat.beq j 7 then (-1) else (bif Nat.beq j 8 then (-1) else (bif Nat.beq j 9 then (-1) else (bif Nat.beq j 10 then (-1) else (bif Nat.beq j 11 then (-1) else (bif Nat.beq j 15 then (-2) else (0))))))))) else 0) else (bif Nat.beq g 94 then (bif Nat.beq j 5 then (-1) else (bif Nat.beq j 6 then (-1) else (bif Nat.beq j 7 then (-1) else (bif Nat.beq j 8 then (-1) else (bif Nat.beq j 9 then (-1) else (bif Nat.beq j 10 then (-1) else (bif Nat.beq j 11 then (-1) else (bif Nat.beq j 15 then (-2) else (0))))))))) else 0))))
noncomputable def x_ms : List (MethodName × ByteArray × Nat × Option FieldType × Nat × Nat × Nat) := [
  (⟨"LostBuyerLaw", "law", "([I)Z"⟩, code, 4, some .boolean, 10, 1, 1),
  (⟨"LostBuyer$History", "<init>", "()V"⟩, prog_2_method_1_code, 2, none, 0, 1, 0),
  (⟨"LostBuyer$History", "clear", "()V"⟩, prog_2_method_2_code, 1, none, 0, 1, 0),
  (⟨"LostBuyer$History", "push", "(LLostBuyer$State;)V"⟩, prog_2_method_3_code, 2, none, 0, 2, 0),
  (⟨"LostBuyer$History", "pop", "(LLostBuyer$State;)Z"⟩, prog_2_method_4_code, 2, some .boolean, 0, 2, 1),
  (⟨"LostBuyer$Laws", "<init>", "()V"⟩, prog_3_method_1_code, 1, none, 1, 1, 0),
  (⟨"LostBuyer$Laws", "clear", "()V"⟩, prog_3_method_2_code, 1, none, 1, 1, 0),
  (⟨"LostBuyer$Laws", "emit", "(II)V"⟩, prog_3_method_3_code, 3, none, 1, 3, 0),
  (⟨"LostBuyer$Laws", "aim", "(I)V"⟩, prog_3_method_4_code, 2, none, 1, 2, 0),
  (⟨"LostBuyer$Laws", "isTold", "(I)Z"⟩, prog_3_method_5_code, 2, some .boolean, 1, 2, 1),
  (⟨"LostBuyer$Laws", "setScene", "(LLostBuyer$State;)V"⟩, prog_3_method_6_code, 2, none, 1, 2, 0),
  (⟨"LostBuyer$Laws", "set", "(II)V"⟩, prog_3_method_7_code, 3, none, 1, 3, 0),
  (⟨"LostBuyer$Laws", "outcome", "(I)I"⟩, prog_3_method_8_code, 9, some .int, 1, 2, 1),
  (⟨"LostBuyer$Laws", "joined", "(III)I"⟩, prog_3_method_9_code, 3, some .int, 1, 3, 1),
  (⟨"LostBuyer$Notes", "<init>", "()V"⟩, prog_4_method_1_code, 1, none, 2, 1, 0),
  (⟨"LostBuyer$Notes", "add", "(IIIZ)I"⟩, prog_4_method_2_code, 5, some .int, 2, 5, 1),
  (⟨"LostBuyer$Notes", "allow", "(IILLostBuyer$Walks;I)Z"⟩, prog_4_method_3_code, 6, some .boolean, 2, 5, 1),
  (⟨"LostBuyer$Notes", "tally", "(IILLostBuyer$Walks;)V"⟩, prog_4_method_4_code, 6, none, 2, 4, 0),
  (⟨"LostBuyer$Notes", "mostAlike", "(I)I"⟩, prog_4_method_5_code, 4, some .int, 2, 2, 1),
  (⟨"LostBuyer$Reader", "<init>", "()V"⟩, prog_5_method_1_code, 1, none, 3, 1, 0),
  (⟨"LostBuyer$Reader", "parse", "([BI)I"⟩, prog_5_method_2_code, 4, some .int, 3, 3, 1),
  (⟨"LostBuyer$Reader", "readTell", "()Z"⟩, prog_5_method_3_code, 2, some .boolean, 3, 1, 1),
  (⟨"LostBuyer$Reader", "take", "(I)Z"⟩, prog_5_method_4_code, 2, some .boolean, 3, 2, 1),
  (⟨"LostBuyer$Reader", "noRoom", "()Z"⟩, prog_5_method_5_code, 1, some .boolean, 3, 1, 1),
  (⟨"LostBuyer$Reader", "readCorner", "()Z"⟩, prog_5_method_6_code, 3, some .boolean, 3, 1, 1),
  (⟨"LostBuyer$Reader", "readLane", "()Z"⟩, prog_5_method_7_code, 3, some .boolean, 3, 1, 1),
  (⟨"LostBuyer$Reader", "readHouse", "()Z"⟩, prog_5_method_8_code, 2, some .boolean, 3, 1, 1),
  (⟨"LostBuyer$Reader", "readPost", "()Z"⟩, prog_5_method_9_code, 4, some .boolean, 3, 1, 1),
  (⟨"LostBuyer$Reader", "readSeeker", "()Z"⟩, prog_5_method_10_code, 3, some .boolean, 3, 1, 1),
  (⟨"LostBuyer$Reader", "readNumber", "(I)Z"⟩, prog_5_method_11_code, 3, some .boolean, 3, 2, 1),
  (⟨"LostBuyer$Reader", "readLaw", "(I)Z"⟩, prog_5_method_12_code, 6, some .boolean, 3, 2, 1),
  (⟨"LostBuyer$Reader", "readSum", "(I)Z"⟩, prog_5_method_13_code, 4, some .boolean, 3, 2, 1),
  (⟨"LostBuyer$Reader", "readProduct", "(I)Z"⟩, prog_5_method_14_code, 4, some .boolean, 3, 2, 1),
  (⟨"LostBuyer$Reader", "readUnit", "(I)Z"⟩, prog_5_method_15_code, 3, some .boolean, 3, 2, 1),
  (⟨"LostBuyer$Reader", "note", "(II)V"⟩, prog_5_method_16_code, 3, none, 3, 3, 0),
  (⟨"LostBuyer$Reader", "numberAt", "(III)I"⟩, prog_5_method_17_code, 5, some .int, 3, 4, 1),
  (⟨"LostBuyer$Reader", "cornerAt", "(I)I"⟩, prog_5_method_18_code, 3, some .int, 3, 2, 1),
  (⟨"LostBuyer$Reader", "checkNew", "(I)V"⟩, prog_5_method_19_code, 4, none, 3, 2, 0),
  (⟨"LostBuyer$Reader", "indexOf", "(J[JI)I"⟩, prog_5_method_20_code, 5, some .int, 3, 3, 1),
  (⟨"LostBuyer$State", "<init>", "()V"⟩, prog_6_method_1_code, 1, none, 4, 1, 0),
  (⟨"LostBuyer$State", "startIn", "(LLostBuyer$Town;)V"⟩, prog_6_method_2_code, 2, none, 4, 2, 0),
  (⟨"LostBuyer$State", "copyFrom", "(LLostBuyer$State;)V"⟩, prog_6_method_3_code, 2, none, 4, 2, 0),
  (⟨"LostBuyer$State", "isSold", "()Z"⟩, prog_6_method_4_code, 1, some .boolean, 4, 1, 1),
  (⟨"LostBuyer$State", "seekersWho", "(II)I"⟩, prog_6_method_5_code, 5, some .int, 4, 3, 1),
  (⟨"LostBuyer$Tokens", "<init>", "()V"⟩, prog_7_method_1_code, 1, none, 5, 1, 0),
  (⟨"LostBuyer$Tokens", "scan", "([BI)V"⟩, prog_7_method_2_code, 7, none, 5, 3, 0),
  (⟨"LostBuyer$Tokens", "behindBlanks", "([BII)I"⟩, prog_7_method_3_code, 4, some .int, 5, 3, 1),
  (⟨"LostBuyer$Tokens", "scanOne", "(I[BI)I"⟩, prog_7_method_4_code, 6, some .int, 5, 4, 1),
  (⟨"LostBuyer$Tokens", "scanLetters", "(I[BI)I"⟩, prog_7_method_5_code, 9, some .int, 5, 4, 1),
  (⟨"LostBuyer$Tokens", "scanDigits", "(I[BI)I"⟩, prog_7_method_6_code, 8, some .int, 5, 4, 1),
  (⟨"LostBuyer$Tokens", "wordAt", "([BII)I"⟩, prog_7_method_7_code, 7, some .int, 5, 3, 1),
  (⟨"LostBuyer$Town", "<init>", "()V"⟩, prog_8_method_1_code, 1, none, 6, 1, 0),
  (⟨"LostBuyer$Town", "clear", "()V"⟩, prog_8_method_2_code, 1, none, 6, 1, 0),
  (⟨"LostBuyer$Town", "hasCorner", "(I)Z"⟩, prog_8_method_3_code, 2, some .boolean, 6, 2, 1),
  (⟨"LostBuyer$Town", "hasLane", "(I)Z"⟩, prog_8_method_4_code, 2, some .boolean, 6, 2, 1),
  (⟨"LostBuyer$Town", "hasSeeker", "(I)Z"⟩, prog_8_method_5_code, 2, some .boolean, 6, 2, 1),
  (⟨"LostBuyer$Town", "finish", "()V"⟩, prog_8_method_6_code, 3, none, 6, 1, 0),
  (⟨"LostBuyer$Town", "addLaneTo", "(II)V"⟩, prog_8_method_7_code, 3, none, 6, 3, 0),
  (⟨"LostBuyer$Town", "shorten", "([IIII)V"⟩, prog_8_method_8_code, 4, none, 6, 4, 0),
  (⟨"LostBuyer$Town", "laneAt", "(II)I"⟩, prog_8_method_9_code, 4, some .int, 6, 3, 1),
  (⟨"LostBuyer$Town", "farEnd", "(II)I"⟩, prog_8_method_10_code, 3, some .int, 6, 3, 1),
  (⟨"LostBuyer$Town", "cornersWithoutLanes", "()I"⟩, prog_8_method_11_code, 3, some .int, 6, 1, 1),
  (⟨"LostBuyer$Town", "quartersAstray", "(LLostBuyer$State;II)I"⟩, prog_8_method_12_code, 5, some .int, 6, 4, 1),
  (⟨"LostBuyer$Town", "toldOfMiles", "(ILLostBuyer$State;II)I"⟩, prog_8_method_13_code, 5, some .int, 6, 5, 1),
  (⟨"LostBuyer$Town", "passDay", "(LLostBuyer$State;)V"⟩, prog_8_method_14_code, 2, none, 6, 2, 0),
  (⟨"LostBuyer$Town", "reachesHouse", "(II)Z"⟩, prog_8_method_15_code, 7, some .boolean, 6, 3, 1),
  (⟨"LostBuyer$Town", "fewestTurns", "(LLostBuyer$State;I)I"⟩, prog_8_method_16_code, 7, some .int, 6, 3, 1),
  (⟨"LostBuyer$Walks", "<init>", "()V"⟩, prog_9_method_1_code, 1, none, 7, 1, 0),
  (⟨"LostBuyer$Walks", "goAllWays", "(LLostBuyer$Town;LLostBuyer$State;I)V"⟩, prog_9_method_2_code, 7, none, 7, 4, 0),
  (⟨"LostBuyer$Walks", "goByLot", "(LLostBuyer$Town;LLostBuyer$State;II)V"⟩, prog_9_method_3_code, 7, none, 7, 5, 0),
  (⟨"LostBuyer$Walks", "came", "(I)Z"⟩, prog_9_method_4_code, 2, some .boolean, 7, 2, 1),
  (⟨"LostBuyer$Walks", "mayBuy", "(I)Z"⟩, prog_9_method_5_code, 2, some .boolean, 7, 2, 1),
  (⟨"LostBuyer$Walks", "casesWith", "([II)I"⟩, prog_9_method_6_code, 5, some .int, 7, 3, 1),
  (⟨"LostBuyer$Walks", "whereBehind", "(II)I"⟩, prog_9_method_7_code, 3, some .int, 7, 3, 1),
  (⟨"LostBuyer$Walks", "setOut", "(LLostBuyer$Town;LLostBuyer$State;I)V"⟩, prog_9_method_8_code, 6, none, 7, 4, 0),
  (⟨"LostBuyer$Walks", "learn", "(LLostBuyer$Town;III)V"⟩, prog_9_method_9_code, 6, none, 7, 5, 0),
  (⟨"LostBuyer$Walks", "part", "(I)V"⟩, prog_9_method_10_code, 4, none, 7, 2, 0),
  (⟨"LostBuyer$Walks", "copyRow", "(II)V"⟩, prog_9_method_11_code, 3, none, 7, 3, 0),
  (⟨"LostBuyer$Walks", "move", "(IZ)V"⟩, prog_9_method_12_code, 5, none, 7, 3, 0),
  (⟨"LostBuyer$Walks", "lot", "(III)I"⟩, prog_9_method_13_code, 4, some .int, 7, 3, 1),
  (⟨"LostBuyer$Walks", "stirred", "(II)I"⟩, prog_9_method_14_code, 3, some .int, 7, 2, 1),
  (⟨"LostBuyer", "<init>", "()V"⟩, prog_1_method_1_code, 2, none, 8, 1, 0),
  (⟨"LostBuyer", "feed", "(IIIII)I"⟩, prog_1_method_2_code, 6, some .int, 8, 6, 1),
  (⟨"LostBuyer", "put", "(I)V"⟩, prog_1_method_3_code, 3, none, 8, 2, 0),
  (⟨"LostBuyer", "back", "(I)I"⟩, prog_1_method_4_code, 2, some .int, 8, 2, 1),
  (⟨"LostBuyer", "read", "()I"⟩, prog_1_method_5_code, 3, some .int, 8, 1, 1),
  (⟨"LostBuyer", "letSlotsGo", "()V"⟩, prog_1_method_6_code, 2, none, 8, 1, 0),
  (⟨"LostBuyer", "place", "()I"⟩, prog_1_method_7_code, 1, some .int, 8, 1, 1),
  (⟨"LostBuyer", "corner", "(II)I"⟩, prog_1_method_8_code, 3, some .int, 8, 3, 1),
  (⟨"LostBuyer", "lane", "(II)I"⟩, prog_1_method_9_code, 3, some .int, 8, 3, 1),
  (⟨"LostBuyer", "seeker", "(II)I"⟩, prog_1_method_10_code, 3, some .int, 8, 3, 1),
  (⟨"LostBuyer", "strays", "(II)I"⟩, prog_1_method_11_code, 3, some .int, 8, 3, 1),
  (⟨"LostBuyer", "tells", "(III)I"⟩, prog_1_method_12_code, 4, some .int, 8, 4, 1),
  (⟨"LostBuyer", "send", "(I)I"⟩, prog_1_method_13_code, 2, some .int, 8, 2, 1),
  (⟨"LostBuyer", "turn", "(II)Z"⟩, prog_1_method_14_code, 3, some .boolean, 8, 3, 1),
  (⟨"LostBuyer", "fog", "(Z)Z"⟩, prog_1_method_15_code, 3, some .boolean, 8, 2, 1),
  (⟨"LostBuyer", "call", "(I)Z"⟩, prog_1_method_16_code, 2, some .boolean, 8, 2, 1),
  (⟨"LostBuyer", "days", "(I)I"⟩, prog_1_method_17_code, 3, some .int, 8, 2, 1),
  (⟨"LostBuyer", "undo", "()Z"⟩, prog_1_method_18_code, 1, some .boolean, 8, 1, 1),
  (⟨"LostBuyer", "comes", "(I)I"⟩, prog_1_method_19_code, 2, some .int, 8, 2, 1),
  (⟨"LostBuyer", "may", "(I)I"⟩, prog_1_method_20_code, 2, some .int, 8, 2, 1),
  (⟨"LostBuyer", "straight", "(I)I"⟩, prog_1_method_21_code, 4, some .int, 8, 2, 1),
  (⟨"LostBuyer", "miles", "(I)I"⟩, prog_1_method_22_code, 4, some .int, 8, 2, 1),
  (⟨"LostBuyer", "passes", "(II)I"⟩, prog_1_method_23_code, 3, some .int, 8, 3, 1),
  (⟨"LostBuyer", "never", "(I)I"⟩, prog_1_method_24_code, 4, some .int, 8, 2, 1),
  (⟨"LostBuyer", "worth", "(I)I"⟩, prog_1_method_25_code, 4, some .int, 8, 2, 1),
  (⟨"LostBuyer", "afraid", "(II)I"⟩, prog_1_method_26_code, 3, some .int, 8, 3, 1),
  (⟨"LostBuyer", "comingCases", "(II)I"⟩, prog_1_method_27_code, 5, some .int, 8, 3, 1),
  (⟨"LostBuyer", "span", "(II)I"⟩, prog_1_method_28_code, 6, some .int, 8, 3, 1),
  (⟨"LostBuyer", "uses", "(II)I"⟩, prog_1_method_29_code, 3, some .int, 8, 3, 1),
  (⟨"LostBuyer", "twice", "(I)I"⟩, prog_1_method_30_code, 4, some .int, 8, 2, 1),
  (⟨"LostBuyer", "buyingCases", "(LLostBuyer$State;I)I"⟩, prog_1_method_31_code, 5, some .int, 8, 3, 1),
  (⟨"LostBuyer", "clearest", "(II)I"⟩, prog_1_method_32_code, 7, some .int, 8, 3, 1),
  (⟨"LostBuyer", "waits", "(III)I"⟩, prog_1_method_33_code, 8, some .int, 8, 4, 1),
  (⟨"LostBuyer", "needed", "(I)I"⟩, prog_1_method_34_code, 5, some .int, 8, 2, 1),
  (⟨"LostBuyer", "turned", "(IZI)I"⟩, prog_1_method_35_code, 9, some .int, 8, 4, 1),
  (⟨"LostBuyer", "lead", "(I)I"⟩, prog_1_method_36_code, 2, some .int, 8, 2, 1),
  (⟨"LostBuyer", "who", "()I"⟩, prog_1_method_37_code, 5, some .int, 8, 1, 1),
  (⟨"LostBuyer", "shortest", "(I)I"⟩, prog_1_method_38_code, 2, some .int, 8, 2, 1),
  (⟨"LostBuyer", "walk", "(II)I"⟩, prog_1_method_39_code, 3, some .int, 8, 3, 1),
  (⟨"LostBuyer", "fogIn", "(I)I"⟩, prog_1_method_40_code, 3, some .int, 8, 2, 1),
  (⟨"LostBuyer", "year", "(II)I"⟩, prog_1_method_41_code, 5, some .int, 8, 3, 1),
  (⟨"LostBuyer", "tell", "(IIIZ)I"⟩, prog_1_method_42_code, 5, some .int, 8, 5, 1),
  (⟨"LostBuyer", "forget", "()I"⟩, prog_1_method_43_code, 2, some .int, 8, 1, 1),
  (⟨"LostBuyer", "ways", "(III)I"⟩, prog_1_method_44_code, 10, some .int, 8, 4, 1),
  (⟨"LostBuyer", "look", "(II)I"⟩, prog_1_method_45_code, 7, some .int, 8, 3, 1),
  (⟨"LostBuyer", "hold", "(I)Z"⟩, prog_1_method_46_code, 2, some .boolean, 8, 2, 1),
  (⟨"LostBuyer", "restore", "(I)Z"⟩, prog_1_method_47_code, 2, some .boolean, 8, 2, 1),
  (⟨"LostBuyer", "count", "(I)I"⟩, prog_1_method_48_code, 2, some .int, 8, 2, 1),
  (⟨"LostBuyer", "slotsHeld", "()I"⟩, prog_1_method_49_code, 3, some .int, 8, 1, 1),
  (⟨"LostBuyer", "sumOf", "([II)I"⟩, prog_1_method_50_code, 4, some .int, 8, 2, 1),
  (⟨"LostBuyer", "within", "(II)I"⟩, prog_1_method_51_code, 2, some .int, 8, 2, 1),
  (⟨"LostBuyerModel", "<init>", "()V"⟩, prog_11_method_2_code, 1, none, 9, 1, 0),
  (⟨"LostBuyerModel", "feed", "(IIIII)I"⟩, prog_11_method_3_code, 6, some .int, 9, 6, 1),
  (⟨"LostBuyerModel", "lays", "(I)V"⟩, prog_11_method_4_code, 3, none, 9, 2, 0),
  (⟨"LostBuyerModel", "back", "(I)I"⟩, prog_11_method_5_code, 2, some .int, 9, 2, 1),
  (⟨"LostBuyerModel", "byteAt", "(I)I"⟩, prog_11_method_6_code, 2, some .int, 9, 2, 1),
  (⟨"LostBuyerModel", "isDigit", "(I)Z"⟩, prog_11_method_7_code, 1, some .boolean, 9, 1, 1),
  (⟨"LostBuyerModel", "isLetter", "(I)Z"⟩, prog_11_method_8_code, 1, some .boolean, 9, 1, 1),
  (⟨"LostBuyerModel", "appends", "(JI)J"⟩, prog_11_method_9_code, 3, some .long, 9, 2, 2),
  (⟨"LostBuyerModel", "letters", "(IIIIIII)J"⟩, prog_11_method_10_code, 7, some .long, 9, 7, 2),
  (⟨"LostBuyerModel", "token", "(IIIJ)V"⟩, prog_11_method_11_code, 6, none, 9, 5, 0),
  (⟨"LostBuyerModel", "cut", "()V"⟩, prog_11_method_12_code, 8, none, 9, 1, 0),
  (⟨"LostBuyerModel", "sign", "(III)I"⟩, prog_11_method_13_code, 5, some .int, 9, 4, 1),
  (⟨"LostBuyerModel", "is", "(I)Z"⟩, prog_11_method_14_code, 2, some .boolean, 9, 2, 1),
  (⟨"LostBuyerModel", "fail", "(I)V"⟩, prog_11_method_15_code, 2, none, 9, 2, 0),
  (⟨"LostBuyerModel", "wrong", "(II)V"⟩, prog_11_method_16_code, 4, none, 9, 3, 0),
  (⟨"LostBuyerModel", "goesOn", "()V"⟩, prog_11_method_17_code, 1, none, 9, 1, 0),
  (⟨"LostBuyerModel", "must", "(I)V"⟩, prog_11_method_18_code, 2, none, 9, 2, 0),
  (⟨"LostBuyerModel", "plain", "(I)V"⟩, prog_11_method_19_code, 3, none, 9, 2, 0),
  (⟨"LostBuyerModel", "read", "()I"⟩, prog_11_method_20_code, 2, some .int, 9, 1, 1),
  (⟨"LostBuyerModel", "place", "()I"⟩, prog_11_method_21_code, 1, some .int, 9, 1, 1),
  (⟨"LostBuyerModel", "roomFor", "(II)V"⟩, prog_11_method_22_code, 3, none, 9, 3, 0),
  (⟨"LostBuyerModel", "toldInt", "(I)I"⟩, prog_11_method_23_code, 3, some .int, 9, 2, 1),
  (⟨"LostBuyerModel", "tellOne", "()V"⟩, prog_11_method_24_code, 2, none, 9, 1, 0),
  (⟨"LostBuyerModel", "named", "()I"⟩, prog_11_method_25_code, 3, some .int, 9, 1, 1),
  (⟨"LostBuyerModel", "endsName", "(II)V"⟩, prog_11_method_26_code, 3, none, 9, 3, 0),
  (⟨"LostBuyerModel", "known", "()I"⟩, prog_11_method_27_code, 3, some .int, 9, 1, 1),
  (⟨"LostBuyerModel", "bounded", "(II)I"⟩, prog_11_method_28_code, 4, some .int, 9, 3, 1),
  (⟨"LostBuyerModel", "tellLane", "()V"⟩, prog_11_method_29_code, 3, none, 9, 1, 0),
  (⟨"LostBuyerModel", "tellPost", "()V"⟩, prog_11_method_30_code, 3, none, 9, 1, 0),
  (⟨"LostBuyerModel", "tellLaw", "(I)V"⟩, prog_11_method_31_code, 4, none, 9, 2, 0),
  (⟨"LostBuyerModel", "term", "()V"⟩, prog_11_method_32_code, 1, none, 9, 1, 0),
  (⟨"LostBuyerModel", "emit", "(II)V"⟩, prog_11_method_33_code, 3, none, 9, 3, 0),
  (⟨"LostBuyerModel", "comesOut", "(Z)V"⟩, prog_11_method_34_code, 3, none, 9, 2, 0),
  (⟨"LostBuyerModel", "expression", "()V"⟩, prog_11_method_35_code, 3, none, 9, 1, 0),
  (⟨"LostBuyerModel", "unit", "()V"⟩, prog_11_method_36_code, 1, none, 9, 1, 0),
  (⟨"LostBuyerModel", "termOf", "(II)I"⟩, prog_11_method_37_code, 8, some .int, 9, 3, 1),
  (⟨"LostBuyerModel", "in", "(III)Z"⟩, prog_11_method_38_code, 3, some .boolean, 9, 3, 1),
  (⟨"LostBuyerModel", "within", "(III)I"⟩, prog_11_method_39_code, 3, some .int, 9, 3, 1),
  (⟨"LostBuyerModel", "isCorner", "(I)Z"⟩, prog_11_method_40_code, 2, some .boolean, 9, 2, 1),
  (⟨"LostBuyerModel", "isLane", "(I)Z"⟩, prog_11_method_41_code, 2, some .boolean, 9, 2, 1),
  (⟨"LostBuyerModel", "isSeeker", "(I)Z"⟩, prog_11_method_42_code, 2, some .boolean, 9, 2, 1),
  (⟨"LostBuyerModel", "houseAt", "()I"⟩, prog_11_method_43_code, 1, some .int, 9, 1, 1),
  (⟨"LostBuyerModel", "startAt", "(I)I"⟩, prog_11_method_44_code, 2, some .int, 9, 2, 1),
  (⟨"LostBuyerModel", "begins", "()V"⟩, prog_11_method_45_code, 2, none, 9, 1, 0),
  (⟨"LostBuyerModel", "keepsRow", "()V"⟩, prog_11_method_46_code, 2, none, 9, 1, 0),
  (⟨"LostBuyerModel", "copies", "()V"⟩, prog_11_method_47_code, 2, none, 9, 1, 0),
  (⟨"LostBuyerModel", "mixed", "(II)I"⟩, prog_11_method_48_code, 3, some .int, 9, 2, 1),
  (⟨"LostBuyerModel", "quarterOf", "(I)I"⟩, prog_11_method_49_code, 2, some .int, 9, 2, 1),
  (⟨"LostBuyerModel", "isEnd", "(II)Z"⟩, prog_11_method_50_code, 3, some .boolean, 9, 3, 1),
  (⟨"LostBuyerModel", "otherEnd", "(II)I"⟩, prog_11_method_51_code, 3, some .int, 9, 3, 1),
  (⟨"LostBuyerModel", "lanesAt", "(I)I"⟩, prog_11_method_52_code, 4, some .int, 9, 2, 1),
  (⟨"LostBuyerModel", "laneAt", "(II)I"⟩, prog_11_method_53_code, 5, some .int, 9, 3, 1),
  (⟨"LostBuyerModel", "laneBy", "(II)I"⟩, prog_11_method_54_code, 4, some .int, 9, 3, 1),
  (⟨"LostBuyerModel", "lawTells", "(II)I"⟩, prog_11_method_55_code, 7, some .int, 9, 3, 1),
  (⟨"LostBuyerModel", "looks", "()V"⟩, prog_11_method_56_code, 2, none, 9, 1, 0),
  (⟨"LostBuyerModel", "looksBy", "(I)V"⟩, prog_11_method_57_code, 2, none, 9, 2, 0),
  (⟨"LostBuyerModel", "straysOf", "(II)I"⟩, prog_11_method_58_code, 4, some .int, 9, 3, 1),
  (⟨"LostBuyerModel", "amountOf", "(III)I"⟩, prog_11_method_59_code, 4, some .int, 9, 4, 1),
  (⟨"LostBuyerModel", "isThick", "()Z"⟩, prog_11_method_60_code, 1, some .boolean, 9, 1, 1),
  (⟨"LostBuyerModel", "dayGoes", "()V"⟩, prog_11_method_61_code, 1, none, 9, 1, 0),
  (⟨"LostBuyerModel", "goes", "(I)V"⟩, prog_11_method_62_code, 3, none, 9, 2, 0),
  (⟨"LostBuyerModel", "fillsMiles", "(I)V"⟩, prog_11_method_63_code, 7, none, 9, 2, 0),
  (⟨"LostBuyerModel", "corner", "(II)I"⟩, prog_11_method_64_code, 3, some .int, 9, 3, 1),
  (⟨"LostBuyerModel", "laneBits", "(I)I"⟩, prog_11_method_65_code, 4, some .int, 9, 2, 1),
  (⟨"LostBuyerModel", "lane", "(II)I"⟩, prog_11_method_66_code, 3, some .int, 9, 3, 1),
  (⟨"LostBuyerModel", "seeker", "(II)I"⟩, prog_11_method_67_code, 3, some .int, 9, 3, 1),
  (⟨"LostBuyerModel", "strays", "(II)I"⟩, prog_11_method_68_code, 3, some .int, 9, 3, 1),
  (⟨"LostBuyerModel", "tells", "(III)I"⟩, prog_11_method_69_code, 4, some .int, 9, 4, 1),
  (⟨"LostBuyerModel", "fillsStrays", "(I)V"⟩, prog_11_method_70_code, 3, none, 9, 2, 0),
  (⟨"LostBuyerModel", "walks", "(II)V"⟩, prog_11_method_71_code, 6, none, 9, 3, 0),
  (⟨"LostBuyerModel", "hasCome", "()Z"⟩, prog_11_method_72_code, 1, some .boolean, 9, 1, 1),
  (⟨"LostBuyerModel", "mayBuy", "(II)Z"⟩, prog_11_method_73_code, 3, some .boolean, 9, 3, 1),
  (⟨"LostBuyerModel", "straysBySeed", "(I)I"⟩, prog_11_method_74_code, 5, some .int, 9, 2, 1),
  (⟨"LostBuyerModel", "records", "()V"⟩, prog_11_method_75_code, 2, none, 9, 1, 0),
  (⟨"LostBuyerModel", "send", "(I)I"⟩, prog_11_method_76_code, 3, some .int, 9, 2, 1),
  (⟨"LostBuyerModel", "toldAt", "(I)I"⟩, prog_11_method_77_code, 2, some .int, 9, 2, 1),
  (⟨"LostBuyerModel", "turn", "(II)Z"⟩, prog_11_method_78_code, 3, some .boolean, 9, 3, 1),
  (⟨"LostBuyerModel", "fog", "(Z)Z"⟩, prog_11_method_79_code, 2, some .boolean, 9, 2, 1),
  (⟨"LostBuyerModel", "call", "(I)Z"⟩, prog_11_method_80_code, 2, some .boolean, 9, 2, 1),
  (⟨"LostBuyerModel", "days", "(I)I"⟩, prog_11_method_81_code, 2, some .int, 9, 2, 1),
  (⟨"LostBuyerModel", "undo", "()Z"⟩, prog_11_method_82_code, 2, some .boolean, 9, 1, 1),
  (⟨"LostBuyerModel", "copiesStrays", "(I)V"⟩, prog_11_method_83_code, 2, none, 9, 2, 0),
  (⟨"LostBuyerModel", "comes", "(I)I"⟩, prog_11_method_84_code, 4, some .int, 9, 2, 1),
  (⟨"LostBuyerModel", "mayOf", "(I)I"⟩, prog_11_method_85_code, 4, some .int, 9, 2, 1),
  (⟨"LostBuyerModel", "may", "(I)I"⟩, prog_11_method_86_code, 2, some .int, 9, 2, 1),
  (⟨"LostBuyerModel", "straight", "(I)I"⟩, prog_11_method_87_code, 2, some .int, 9, 2, 1),
  (⟨"LostBuyerModel", "miles", "(I)I"⟩, prog_11_method_88_code, 4, some .int, 9, 2, 1),
  (⟨"LostBuyerModel", "passesOf", "(II)I"⟩, prog_11_method_89_code, 5, some .int, 9, 3, 1),
  (⟨"LostBuyerModel", "passes", "(II)I"⟩, prog_11_method_90_code, 3, some .int, 9, 3, 1),
  (⟨"LostBuyerModel", "never", "(I)I"⟩, prog_11_method_91_code, 4, some .int, 9, 2, 1),
  (⟨"LostBuyerModel", "worth", "(I)I"⟩, prog_11_method_92_code, 4, some .int, 9, 2, 1),
  (⟨"LostBuyerModel", "afraid", "(II)I"⟩, prog_11_method_93_code, 5, some .int, 9, 3, 1),
  (⟨"LostBuyerModel", "span", "(II)I"⟩, prog_11_method_94_code, 6, some .int, 9, 3, 1),
  (⟨"LostBuyerModel", "uses", "(II)I"⟩, prog_11_method_95_code, 5, some .int, 9, 3, 1),
  (⟨"LostBuyerModel", "bits", "(I)I"⟩, prog_11_method_96_code, 3, some .int, 9, 1, 1),
  (⟨"LostBuyerModel", "twice", "(I)I"⟩, prog_11_method_97_code, 4, some .int, 9, 2, 1),
  (⟨"LostBuyerModel", "clearest", "(II)I"⟩, prog_11_method_98_code, 7, some .int, 9, 3, 1),
  (⟨"LostBuyerModel", "waits", "(III)I"⟩, prog_11_method_99_code, 8, some .int, 9, 4, 1),
  (⟨"LostBuyerModel", "needed", "(I)I"⟩, prog_11_method_100_code, 4, some .int, 9, 2, 1),
  (⟨"LostBuyerModel", "turned", "(IZI)I"⟩, prog_11_method_101_code, 10, some .int, 9, 4, 1),
  (⟨"LostBuyerModel", "lead", "(I)I"⟩, prog_11_method_102_code, 6, some .int, 9, 2, 1),
  (⟨"LostBuyerModel", "who", "()I"⟩, prog_11_method_103_code, 5, some .int, 9, 1, 1),
  (⟨"LostBuyerModel", "shortest", "(I)I"⟩, prog_11_method_104_code, 2, some .int, 9, 2, 1),
  (⟨"LostBuyerModel", "walk", "(II)I"⟩, prog_11_method_105_code, 4, some .int, 9, 3, 1),
  (⟨"LostBuyerModel", "fogIn", "(I)I"⟩, prog_11_method_106_code, 2, some .int, 9, 2, 1),
  (⟨"LostBuyerModel", "year", "(II)I"⟩, prog_11_method_107_code, 6, some .int, 9, 3, 1),
  (⟨"LostBuyerModel", "tell", "(IIIZ)I"⟩, prog_11_method_108_code, 5, some .int, 9, 5, 1),
  (⟨"LostBuyerModel", "forget", "()I"⟩, prog_11_method_109_code, 2, some .int, 9, 1, 1),
  (⟨"LostBuyerModel", "doesFit", "(III)Z"⟩, prog_11_method_110_code, 5, some .boolean, 9, 4, 1),
  (⟨"LostBuyerModel", "ways", "(III)I"⟩, prog_11_method_111_code, 9, some .int, 9, 4, 1),
  (⟨"LostBuyerModel", "look", "(II)I"⟩, prog_11_method_112_code, 9, some .int, 9, 3, 1),
  (⟨"LostBuyerModel", "hold", "(I)Z"⟩, prog_11_method_113_code, 3, some .boolean, 9, 2, 1),
  (⟨"LostBuyerModel", "restore", "(I)Z"⟩, prog_11_method_114_code, 3, some .boolean, 9, 2, 1),
  (⟨"LostBuyerModel", "inState", "(I)I"⟩, prog_11_method_115_code, 4, some .int, 9, 2, 1),
  (⟨"LostBuyerModel", "count", "(I)I"⟩, prog_11_method_116_code, 4, some .int, 9, 2, 1),
  (⟨"java/util/Arrays", "fill", "([II)V"⟩, prog_18_method_103_code, 4, none, 11, 2, 0),
  (⟨"java/lang/String", "length", "()I"⟩, prog_14_method_54_code, 1, some .int, 12, 1, 1),
  (⟨"java/lang/String", "charAt", "(I)C"⟩, prog_14_method_56_code, 2, some .char, 12, 2, 1),
  (⟨"java/lang/String", "indexOf", "(I)I"⟩, prog_14_method_79_code, 2, some .int, 12, 2, 1),
  (⟨"java/lang/String", "indexOf", "(II)I"⟩, prog_14_method_80_code, 3, some .int, 12, 3, 1),
  (⟨"java/lang/String", "coder", "()B"⟩, prog_14_method_152_code, 1, some .byte, 12, 1, 1),
  (⟨"java/lang/String", "isLatin1", "()Z"⟩, prog_14_method_154_code, 1, some .boolean, 12, 1, 1),
  (⟨"java/lang/String", "checkIndex", "(II)V"⟩, prog_14_method_155_code, 2, none, 12, 2, 0),
  (⟨"java/lang/StringLatin1", "charAt", "([BI)C"⟩, prog_15_method_2_code, 2, some .char, 13, 2, 1),
  (⟨"java/lang/StringLatin1", "canEncode", "(I)Z"⟩, prog_15_method_4_code, 1, some .boolean, 13, 1, 1),
  (⟨"java/lang/StringLatin1", "indexOf", "([BIII)I"⟩, prog_15_method_22_code, 4, some .int, 13, 4, 1),
  (⟨"java/lang/StringLatin1", "indexOfChar", "([BIII)I"⟩, prog_15_method_23_code, 6, some .int, 13, 4, 1),
  (⟨"jdk/internal/util/Preconditions", "checkIndex", "(IILjava/util/function/BiFunction;)I"⟩, prog_19_method_11_code, 3, some .int, 14, 3, 1),
  (⟨"java/lang/Math", "max", "(II)I"⟩, prog_13_method_65_code, 2, some .int, 15, 2, 1),
  (⟨"java/lang/Math", "min", "(II)I"⟩, prog_13_method_69_code, 2, some .int, 15, 2, 1)]
noncomputable def x_mo (k : Nat) : Nat := bif Nat.blt k 131 then (bif Nat.blt k 65 then (bif Nat.blt k 32 then (bif Nat.blt k 16 then (bif Nat.blt k 8 then (bif Nat.blt k 4 then (bif Nat.blt k 2 then (bif Nat.blt k 1 then (10) else (0)) else (bif Nat.blt k 3 then (0) else (0))) else (bif Nat.blt k 6 then (bif Nat.blt k 5 then (0) else (1)) else (bif Nat.blt k 7 then (1) else (1)))) else (bif Nat.blt k 12 then (bif Nat.blt k 10 then (bif Nat.blt k 9 then (1) else (1)) else (bif Nat.blt k 11 then (1) else (1))) else (bif Nat.blt k 14 then (bif Nat.blt k 13 then (1) else (1)) else (bif Nat.blt k 15 then (2) else (2))))) else (bif Nat.blt k 24 then (bif Nat.blt k 20 then (bif Nat.blt k 18 then (bif Nat.blt k 17 then (2) else (2)) else (bif Nat.blt k 19 then (2) else (3))) else (bif Nat.blt k 22 then (bif Nat.blt k 21 then (3) else (3)) else (bif Nat.blt k 23 then (3) else (3)))) else (bif Nat.blt k 28 then (bif Nat.blt k 26 then (bif Nat.blt k 25 then (3) else (3)) else (bif Nat.blt k 27 then (3) else (3))) else (bif Nat.blt k 30 then (bif Nat.blt k 29 then (3) else (3)) else (bif Nat.blt k 31 then (3) else (3)))))) else (bif Nat.blt k 48 then (bif Nat.blt k 40 then (bif Nat.blt k 36 then (bif Nat.blt k 34 then (bif Nat.blt k 33 then (3) else (3)) else (bif Nat.blt k 35 then (3) else (3))) else (bif Nat.blt k 38 then (bif Nat.blt k 37 then (3) else (3)) else (bif Nat.blt k 39 then (3) else (4)))) else (bif Nat.blt k 44 then (bif Nat.blt k 42 then (bif Nat.blt k 41 then (4) else (4)) else (bif Nat.blt k 43 then (4) else (4))) else (bif Nat.blt k 46 then (bif Nat.blt k 45 then (5) else (5)) else (bif Nat.blt k 47 then (5) else (5))))) else (bif Nat.blt k 56 then (bif Nat.blt k 52 then (bif Nat.blt k 50 then (bif Nat.blt k 49 then (5) else (5)) else (bif Nat.blt k 51 then (5) else (6))) else (bif Nat.blt k 54 then (bif Nat.blt k 53 then (6) else (6)) else (bif Nat.blt k 55 then (6) else (6)))) else (bif Nat.blt k 60 then (bif Nat.blt k 58 then (bif Nat.blt k 57 then (6) else (6)) else (bif Nat.blt k 59 then (6) else (6))) else (bif Nat.blt k 62 then (bif Nat.blt k 61 then (6) else (6)) else (bif Nat.blt k 63 then (6) else (bif Nat.blt k 64 then (6) else (6)))))))) else (bif Nat.blt k 98 then (bif Nat.blt k 81 then (bif Nat.blt k 73 then (bif Nat.blt k 69 then (bif Nat.blt k 67 then (bif Nat.blt k 66 then (6) else (6)) else (bif Nat.blt k 68 then (7) else (7))) else (bif Nat.blt k 71 then (bif Nat.blt k 70 then (7) else (7)) else (bif Nat.blt k 72 then (7) else (7)))) else (bif Nat.blt k 77 then (bif Nat.blt k 75 then (bif Nat.blt k 74 then (7) else (7)) else (bif Nat.blt k 76 then (7) else (7))) else (bif Nat.blt k 79 then (bif Nat.blt k 78 then (7) else (7)) else (bif Nat.blt k 80 then (7) else (7))))) else (bif Nat.blt k 89 then (bif Nat.blt k 85 then (bif Nat.blt k 83 then (bif Nat.blt k 82 then (8) else (8)) else (bif Nat.blt k 84 then (8) else (8))) else (bif Nat.blt k 87 then (bif Nat.blt k 86 then (8) else (8)) else (bif Nat.blt k 88 then (8) else (8)))) else (bif Nat.blt k 93 then (bif Nat.blt k 91 then (bif Nat.blt k 90 then (8) else (8)) else (bif Nat.blt k 92 then (8) else (8))) else (bif Nat.blt k 95 then (bif Nat.blt k 94 then (8) else (8)) else (bif Nat.blt k 96 then (8) else (bif Nat.blt k 97 then (8) else (8))))))) else (bif Nat.blt k 114 then (bif Nat.blt k 106 then (bif Nat.blt k 102 then (bif Nat.blt k 100 then (bif Nat.blt k 99 then (8) else (8)) else (bif Nat.blt k 101 then (8) else (8))) else (bif Nat.blt k 104 then (bif Nat.blt k 103 then (8) else (8)) else (bif Nat.blt k 105 then (8) else (8)))) else (bif Nat.blt k 110 then (bif Nat.blt k 108 then (bif Nat.blt k 107 then (8) else (8)) else (bif Nat.blt k 109 then (8) else (8))) else (bif Nat.blt k 112 then (bif Nat.blt k 111 then (8) else (8)) else (bif Nat.blt k 113 then (8) else (8))))) else (bif Nat.blt k 122 then (bif Nat.blt k 118 then (bif Nat.blt k 116 then (bif Nat.blt k 115 then (8) else (8)) else (bif Nat.blt k 117 then (8) else (8))) else (bif Nat.blt k 120 then (bif Nat.blt k 119 then (8) else (8)) else (bif Nat.blt k 121 then (8) else (8)))) else (bif Nat.blt k 126 then (bif Nat.blt k 124 then (bif Nat.blt k 123 then (8) else (8)) else (bif Nat.blt k 125 then (8) else (8))) else (bif Nat.blt k 128 then (bif Nat.blt k 127 then (8) else (8)) else (bif Nat.blt k 129 then (8) else (bif Nat.blt k 130 then (8) else (8))))))))) else (bif Nat.blt k 196 then (bif Nat.blt k 163 then (bif Nat.blt k 147 then (bif Nat.blt k 139 then (bif Nat.blt k 135 then (bif Nat.blt k 133 then (bif Nat.blt k 132 then (8) else (9)) else (bif Nat.blt k 134 then (9) else (9))) else (bif Nat.blt k 137 then (bif Nat.blt k 136 then (9) else (9)) else (bif Nat.blt k 138 then (9) else (9)))) else (bif Nat.blt k 143 then (bif Nat.blt k 141 then (bif Nat.blt k 140 then (9) else (9)) else (bif Nat.blt k 142 then (9) else (9))) else (bif Nat.blt k 145 then (bif Nat.blt k 144 then (9) else (9)) else (bif Nat.blt k 146 then (9) else (9))))) else (bif Nat.blt k 155 then (bif Nat.blt k 151 then (bif Nat.blt k 149 then (bif Nat.blt k 148 then (9) else (9)) else (bif Nat.blt k 150 then (9) else (9))) else (bif Nat.blt k 153 then (bif Nat.blt k 152 then (9) else (9)) else (bif Nat.blt k 154 then (9) else (9)))) else (bif Nat.blt k 159 then (bif Nat.blt k 157 then (bif Nat.blt k 156 then (9) else (9)) else (bif Nat.blt k 158 then (9) else (9))) else (bif Nat.blt k 161 then (bif Nat.blt k 160 then (9) else (9)) else (bif Nat.blt k 162 then (9) else (9)))))) else (bif Nat.blt k 179 then (bif Nat.blt k 171 then (bif Nat.blt k 167 then (bif Nat.blt k 165 then (bif Nat.blt k 164 then (9) else (9)) else (bif Nat.blt k 166 then (9) else (9))) else (bif Nat.blt k 169 then (bif Nat.blt k 168 then (9) else (9)) else (bif Nat.blt k 170 then (9) else (9)))) else (bif Nat.blt k 175 then (bif Nat.blt k 173 then (bif Nat.blt k 172 then (9) else (9)) else (bif Nat.blt k 174 then (9) else (9))) else (bif Nat.blt k 177 then (bif Nat.blt k 176 then (9) else (9)) else (bif Nat.blt k 178 then (9) else (9))))) else (bif Nat.blt k 187 then (bif Nat.blt k 183 then (bif Nat.blt k 181 then (bif Nat.blt k 180 then (9) else (9)) else (bif Nat.blt k 182 then (9) else (9))) else (bif Nat.blt k 185 then (bif Nat.blt k 184 then (9) else (9)) else (bif Nat.blt k 186 then (9) else (9)))) else (bif Nat.blt k 191 then (bif Nat.blt k 189 then (bif Nat.blt k 188 then (9) else (9)) else (bif Nat.blt k 190 then (9) else (9))) else (bif Nat.blt k 193 then (bif Nat.blt k 192 then (9) else (9)) else (bif Nat.blt k 194 then (9) else (bif Nat.blt k 195 then (9) else (9)))))))) else (bif Nat.blt k 229 then (bif Nat.blt k 212 then (bif Nat.blt k 204 then (bif Nat.blt k 200 then (bif Nat.blt k 198 then (bif Nat.blt k 197 then (9) else (9)) else (bif Nat.blt k 199 then (9) else (9))) else (bif Nat.blt k 202 then (bif Nat.blt k 201 then (9) else (9)) else (bif Nat.blt k 203 then (9) else (9)))) else (bif Nat.blt k 208 then (bif Nat.blt k 206 then (bif Nat.blt k 205 then (9) else (9)) else (bif Nat.blt k 207 then (9) else (9))) else (bif Nat.blt k 210 then (bif Nat.blt k 209 then (9) else (9)) else (bif Nat.blt k 211 then (9) else (9))))) else (bif Nat.blt k 220 then (bif Nat.blt k 216 then (bif Nat.blt k 214 then (bif Nat.blt k 213 then (9) else (9)) else (bif Nat.blt k 215 then (9) else (9))) else (bif Nat.blt k 218 then (bif Nat.blt k 217 then (9) else (9)) else (bif Nat.blt k 219 then (9) else (9)))) else (bif Nat.blt k 224 then (bif Nat.blt k 222 then (bif Nat.blt k 221 then (9) else (9)) else (bif Nat.blt k 223 then (9) else (9))) else (bif Nat.blt k 226 then (bif Nat.blt k 225 then (9) else (9)) else (bif Nat.blt k 227 then (9) else (bif Nat.blt k 228 then (9) else (9))))))) else (bif Nat.blt k 245 then (bif Nat.blt k 237 then (bif Nat.blt k 233 then (bif Nat.blt k 231 then (bif Nat.blt k 230 then (9) else (9)) else (bif Nat.blt k 232 then (9) else (9))) else (bif Nat.blt k 235 then (bif Nat.blt k 234 then (9) else (9)) else (bif Nat.blt k 236 then (9) else (9)))) else (bif Nat.blt k 241 then (bif Nat.blt k 239 then (bif Nat.blt k 238 then (9) else (9)) else (bif Nat.blt k 240 then (9) else (9))) else (bif Nat.blt k 243 then (bif Nat.blt k 242 then (9) else (9)) else (bif Nat.blt k 244 then (9) else (9))))) else (bif Nat.blt k 253 then (bif Nat.blt k 249 then (bif Nat.blt k 247 then (bif Nat.blt k 246 then (9) else (9)) else (bif Nat.blt k 248 then (11) else (12))) else (bif Nat.blt k 251 then (bif Nat.blt k 250 then (12) else (12)) else (bif Nat.blt k 252 then (12) else (12)))) else (bif Nat.blt k 257 then (bif Nat.blt k 255 then (bif Nat.blt k 254 then (12) else (12)) else (bif Nat.blt k 256 then (13) else (13))) else (bif Nat.blt k 259 then (bif Nat.blt k 258 then (13) else (13)) else (bif Nat.blt k 260 then (14) else (bif Nat.blt k 261 then (15) else (15)))))))))
noncomputable def x_mx (k : Nat) : Nat := bif Nat.blt k 131 then (bif Nat.blt k 65 then (bif Nat.blt k 32 then (bif Nat.blt k 16 then (bif Nat.blt k 8 then (bif Nat.blt k 4 then (bif Nat.blt k 2 then (bif Nat.blt k 1 then (4) else (2)) else (bif Nat.blt k 3 then (1) else (2))) else (bif Nat.blt k 6 then (bif Nat.blt k 5 then (2) else (1)) else (bif Nat.blt k 7 then (1) else (3)))) else (bif Nat.blt k 12 then (bif Nat.blt k 10 then (bif Nat.blt k 9 then (2) else (2)) else (bif Nat.blt k 11 then (2) else (3))) else (bif Nat.blt k 14 then (bif Nat.blt k 13 then (9) else (3)) else (bif Nat.blt k 15 then (1) else (5))))) else (bif Nat.blt k 24 then (bif Nat.blt k 20 then (bif Nat.blt k 18 then (bif Nat.blt k 17 then (6) else (6)) else (bif Nat.blt k 19 then (4) else (1))) else (bif Nat.blt k 22 then (bif Nat.blt k 21 then (4) else (2)) else (bif Nat.blt k 23 then (2) else (1)))) else (bif Nat.blt k 28 then (bif Nat.blt k 26 then (bif Nat.blt k 25 then (3) else (3)) else (bif Nat.blt k 27 then (2) else (4))) else (bif Nat.blt k 30 then (bif Nat.blt k 29 then (3) else (3)) else (bif Nat.blt k 31 then (6) else (4)))))) else (bif Nat.blt k 48 then (bif Nat.blt k 40 then (bif Nat.blt k 36 then (bif Nat.blt k 34 then (bif Nat.blt k 33 then (4) else (3)) else (bif Nat.blt k 35 then (3) else (5))) else (bif Nat.blt k 38 then (bif Nat.blt k 37 then (3) else (4)) else (bif Nat.blt k 39 then (5) else (1)))) else (bif Nat.blt k 44 then (bif Nat.blt k 42 then (bif Nat.blt k 41 then (2) else (2)) else (bif Nat.blt k 43 then (1) else (5))) else (bif Nat.blt k 46 then (bif Nat.blt k 45 then (1) else (7)) else (bif Nat.blt k 47 then (4) else (6))))) else (bif Nat.blt k 56 then (bif Nat.blt k 52 then (bif Nat.blt k 50 then (bif Nat.blt k 49 then (9) else (8)) else (bif Nat.blt k 51 then (7) else (1))) else (bif Nat.blt k 54 then (bif Nat.blt k 53 then (1) else (2)) else (bif Nat.blt k 55 then (2) else (2)))) else (bif Nat.blt k 60 then (bif Nat.blt k 58 then (bif Nat.blt k 57 then (3) else (3)) else (bif Nat.blt k 59 then (4) else (4))) else (bif Nat.blt k 62 then (bif Nat.blt k 61 then (3) else (3)) else (bif Nat.blt k 63 then (5) else (bif Nat.blt k 64 then (5) else (2)))))))) else (bif Nat.blt k 98 then (bif Nat.blt k 81 then (bif Nat.blt k 73 then (bif Nat.blt k 69 then (bif Nat.blt k 67 then (bif Nat.blt k 66 then (7) else (7)) else (bif Nat.blt k 68 then (1) else (7))) else (bif Nat.blt k 71 then (bif Nat.blt k 70 then (7) else (2)) else (bif Nat.blt k 72 then (2) else (5)))) else (bif Nat.blt k 77 then (bif Nat.blt k 75 then (bif Nat.blt k 74 then (3) else (6)) else (bif Nat.blt k 76 then (6) else (4))) else (bif Nat.blt k 79 then (bif Nat.blt k 78 then (3) else (5)) else (bif Nat.blt k 80 then (4) else (3))))) else (bif Nat.blt k 89 then (bif Nat.blt k 85 then (bif Nat.blt k 83 then (bif Nat.blt k 82 then (2) else (6)) else (bif Nat.blt k 84 then (3) else (2))) else (bif Nat.blt k 87 then (bif Nat.blt k 86 then (3) else (2)) else (bif Nat.blt k 88 then (1) else (3)))) else (bif Nat.blt k 93 then (bif Nat.blt k 91 then (bif Nat.blt k 90 then (3) else (3)) else (bif Nat.blt k 92 then (3) else (4))) else (bif Nat.blt k 95 then (bif Nat.blt k 94 then (2) else (3)) else (bif Nat.blt k 96 then (3) else (bif Nat.blt k 97 then (2) else (3))))))) else (bif Nat.blt k 114 then (bif Nat.blt k 106 then (bif Nat.blt k 102 then (bif Nat.blt k 100 then (bif Nat.blt k 99 then (1) else (2)) else (bif Nat.blt k 101 then (2) else (4))) else (bif Nat.blt k 104 then (bif Nat.blt k 103 then (4) else (3)) else (bif Nat.blt k 105 then (4) else (4)))) else (bif Nat.blt k 110 then (bif Nat.blt k 108 then (bif Nat.blt k 107 then (3) else (5)) else (bif Nat.blt k 109 then (6) else (3))) else (bif Nat.blt k 112 then (bif Nat.blt k 111 then (4) else (5)) else (bif Nat.blt k 113 then (7) else (8))))) else (bif Nat.blt k 122 then (bif Nat.blt k 118 then (bif Nat.blt k 116 then (bif Nat.blt k 115 then (5) else (9)) else (bif Nat.blt k 117 then (2) else (5))) else (bif Nat.blt k 120 then (bif Nat.blt k 119 then (2) else (3)) else (bif Nat.blt k 121 then (3) else (5)))) else (bif Nat.blt k 126 then (bif Nat.blt k 124 then (bif Nat.blt k 123 then (5) else (2)) else (bif Nat.blt k 125 then (10) else (7))) else (bif Nat.blt k 128 then (bif Nat.blt k 127 then (2) else (2)) else (bif Nat.blt k 129 then (2) else (bif Nat.blt k 130 then (3) else (4))))))))) else (bif Nat.blt k 196 then (bif Nat.blt k 163 then (bif Nat.blt k 147 then (bif Nat.blt k 139 then (bif Nat.blt k 135 then (bif Nat.blt k 133 then (bif Nat.blt k 132 then (2) else (1)) else (bif Nat.blt k 134 then (6) else (3))) else (bif Nat.blt k 137 then (bif Nat.blt k 136 then (2) else (2)) else (bif Nat.blt k 138 then (1) else (1)))) else (bif Nat.blt k 143 then (bif Nat.blt k 141 then (bif Nat.blt k 140 then (3) else (7)) else (bif Nat.blt k 142 then (6) else (8))) else (bif Nat.blt k 145 then (bif Nat.blt k 144 then (5) else (2)) else (bif Nat.blt k 146 then (2) else (4))))) else (bif Nat.blt k 155 then (bif Nat.blt k 151 then (bif Nat.blt k 149 then (bif Nat.blt k 148 then (1) else (2)) else (bif Nat.blt k 150 then (3) else (2))) else (bif Nat.blt k 153 then (bif Nat.blt k 152 then (1) else (3)) else (bif Nat.blt k 154 then (3) else (2)))) else (bif Nat.blt k 159 then (bif Nat.blt k 157 then (bif Nat.blt k 156 then (3) else (3)) else (bif Nat.blt k 158 then (3) else (4))) else (bif Nat.blt k 161 then (bif Nat.blt k 160 then (3) else (3)) else (bif Nat.blt k 162 then (4) else (1)))))) else (bif Nat.blt k 179 then (bif Nat.blt k 171 then (bif Nat.blt k 167 then (bif Nat.blt k 165 then (bif Nat.blt k 164 then (3) else (3)) else (bif Nat.blt k 166 then (3) else (1))) else (bif Nat.blt k 169 then (bif Nat.blt k 168 then (8) else (3)) else (bif Nat.blt k 170 then (3) else (2)))) else (bif Nat.blt k 175 then (bif Nat.blt k 173 then (bif Nat.blt k 172 then (2) else (2)) else (bif Nat.blt k 174 then (1) else (2))) else (bif Nat.blt k 177 then (bif Nat.blt k 176 then (2) else (2)) else (bif Nat.blt k 178 then (2) else (3))))) else (bif Nat.blt k 187 then (bif Nat.blt k 183 then (bif Nat.blt k 181 then (bif Nat.blt k 180 then (2) else (3)) else (bif Nat.blt k 182 then (3) else (4))) else (bif Nat.blt k 185 then (bif Nat.blt k 184 then (5) else (4)) else (bif Nat.blt k 186 then (7) else (2)))) else (bif Nat.blt k 191 then (bif Nat.blt k 189 then (bif Nat.blt k 188 then (2) else (4)) else (bif Nat.blt k 190 then (4) else (1))) else (bif Nat.blt k 193 then (bif Nat.blt k 192 then (1) else (3)) else (bif Nat.blt k 194 then (7) else (bif Nat.blt k 195 then (3) else (4)))))))) else (bif Nat.blt k 229 then (bif Nat.blt k 212 then (bif Nat.blt k 204 then (bif Nat.blt k 200 then (bif Nat.blt k 198 then (bif Nat.blt k 197 then (3) else (3)) else (bif Nat.blt k 199 then (3) else (4))) else (bif Nat.blt k 202 then (bif Nat.blt k 201 then (3) else (6)) else (bif Nat.blt k 203 then (1) else (3)))) else (bif Nat.blt k 208 then (bif Nat.blt k 206 then (bif Nat.blt k 205 then (5) else (2)) else (bif Nat.blt k 207 then (3) else (2))) else (bif Nat.blt k 210 then (bif Nat.blt k 209 then (3) else (2)) else (bif Nat.blt k 211 then (2) else (2))))) else (bif Nat.blt k 220 then (bif Nat.blt k 216 then (bif Nat.blt k 214 then (bif Nat.blt k 213 then (2) else (2)) else (bif Nat.blt k 215 then (4) else (4))) else (bif Nat.blt k 218 then (bif Nat.blt k 217 then (2) else (2)) else (bif Nat.blt k 219 then (4) else (5)))) else (bif Nat.blt k 224 then (bif Nat.blt k 222 then (bif Nat.blt k 221 then (3) else (4)) else (bif Nat.blt k 223 then (4) else (5))) else (bif Nat.blt k 226 then (bif Nat.blt k 225 then (6) else (5)) else (bif Nat.blt k 227 then (3) else (bif Nat.blt k 228 then (4) else (7))))))) else (bif Nat.blt k 245 then (bif Nat.blt k 237 then (bif Nat.blt k 233 then (bif Nat.blt k 231 then (bif Nat.blt k 230 then (8) else (4)) else (bif Nat.blt k 232 then (10) else (6))) else (bif Nat.blt k 235 then (bif Nat.blt k 234 then (5) else (2)) else (bif Nat.blt k 236 then (4) else (2)))) else (bif Nat.blt k 241 then (bif Nat.blt k 239 then (bif Nat.blt k 238 then (6) else (5)) else (bif Nat.blt k 240 then (2) else (5))) else (bif Nat.blt k 243 then (bif Nat.blt k 242 then (9) else (9)) else (bif Nat.blt k 244 then (3) else (3))))) else (bif Nat.blt k 253 then (bif Nat.blt k 249 then (bif Nat.blt k 247 then (bif Nat.blt k 246 then (4) else (4)) else (bif Nat.blt k 248 then (4) else (1))) else (bif Nat.blt k 251 then (bif Nat.blt k 250 then (2) else (2)) else (bif Nat.blt k 252 then (3) else (1)))) else (bif Nat.blt k 257 then (bif Nat.blt k 255 then (bif Nat.blt k 254 then (1) else (2)) else (bif Nat.blt k 256 then (2) else (1))) else (bif Nat.blt k 259 then (bif Nat.blt k 258 then (4) else (6)) else (bif Nat.blt k 260 then (3) else (bif Nat.blt k 261 then (2) else (2)))))))))
noncomputable def x_mk (k : Nat) : Nat := bif Nat.blt k 131 then (bif Nat.blt k 65 then (bif Nat.blt k 32 then (bif Nat.blt k 16 then (bif Nat.blt k 8 then (bif Nat.blt k 4 then (bif Nat.blt k 2 then (bif Nat.blt k 1 then (3) else (0)) else (bif Nat.blt k 3 then (0) else (0))) else (bif Nat.blt k 6 then (bif Nat.blt k 5 then (3) else (0)) else (bif Nat.blt k 7 then (0) else (0)))) else (bif Nat.blt k 12 then (bif Nat.blt k 10 then (bif Nat.blt k 9 then (0) else (3)) else (bif Nat.blt k 11 then (0) else (0))) else (bif Nat.blt k 14 then (bif Nat.blt k 13 then (1) else (1)) else (bif Nat.blt k 15 then (0) else (1))))) else (bif Nat.blt k 24 then (bif Nat.blt k 20 then (bif Nat.blt k 18 then (bif Nat.blt k 17 then (3) else (0)) else (bif Nat.blt k 19 then (1) else (0))) else (bif Nat.blt k 22 then (bif Nat.blt k 21 then (1) else (3)) else (bif Nat.blt k 23 then (3) else (3)))) else (bif Nat.blt k 28 then (bif Nat.blt k 26 then (bif Nat.blt k 25 then (3) else (3)) else (bif Nat.blt k 27 then (3) else (3))) else (bif Nat.blt k 30 then (bif Nat.blt k 29 then (3) else (3)) else (bif Nat.blt k 31 then (3) else (3)))))) else (bif Nat.blt k 48 then (bif Nat.blt k 40 then (bif Nat.blt k 36 then (bif Nat.blt k 34 then (bif Nat.blt k 33 then (3) else (3)) else (bif Nat.blt k 35 then (0) else (1))) else (bif Nat.blt k 38 then (bif Nat.blt k 37 then (1) else (0)) else (bif Nat.blt k 39 then (1) else (0)))) else (bif Nat.blt k 44 then (bif Nat.blt k 42 then (bif Nat.blt k 41 then (0) else (0)) else (bif Nat.blt k 43 then (3) else (1))) else (bif Nat.blt k 46 then (bif Nat.blt k 45 then (0) else (0)) else (bif Nat.blt k 47 then (1) else (1))))) else (bif Nat.blt k 56 then (bif Nat.blt k 52 then (bif Nat.blt k 50 then (bif Nat.blt k 49 then (1) else (1)) else (bif Nat.blt k 51 then (1) else (0))) else (bif Nat.blt k 54 then (bif Nat.blt k 53 then (0) else (3)) else (bif Nat.blt k 55 then (3) else (3)))) else (bif Nat.blt k 60 then (bif Nat.blt k 58 then (bif Nat.blt k 57 then (0) else (0)) else (bif Nat.blt k 59 then (0) else (1))) else (bif Nat.blt k 62 then (bif Nat.blt k 61 then (1) else (1)) else (bif Nat.blt k 63 then (1) else (bif Nat.blt k 64 then (1) else (0)))))))) else (bif Nat.blt k 98 then (bif Nat.blt k 81 then (bif Nat.blt k 73 then (bif Nat.blt k 69 then (bif Nat.blt k 67 then (bif Nat.blt k 66 then (3) else (1)) else (bif Nat.blt k 68 then (0) else (0))) else (bif Nat.blt k 71 then (bif Nat.blt k 70 then (0) else (3)) else (bif Nat.blt k 72 then (3) else (1)))) else (bif Nat.blt k 77 then (bif Nat.blt k 75 then (bif Nat.blt k 74 then (1) else (0)) else (bif Nat.blt k 76 then (0) else (0))) else (bif Nat.blt k 79 then (bif Nat.blt k 78 then (0) else (0)) else (bif Nat.blt k 80 then (1) else (1))))) else (bif Nat.blt k 89 then (bif Nat.blt k 85 then (bif Nat.blt k 83 then (bif Nat.blt k 82 then (0) else (1)) else (bif Nat.blt k 84 then (0) else (1))) else (bif Nat.blt k 87 then (bif Nat.blt k 86 then (1) else (0)) else (bif Nat.blt k 88 then (1) else (1)))) else (bif Nat.blt k 93 then (bif Nat.blt k 91 then (bif Nat.blt k 90 then (1) else (1)) else (bif Nat.blt k 92 then (1) else (1))) else (bif Nat.blt k 95 then (bif Nat.blt k 94 then (1) else (3)) else (bif Nat.blt k 96 then (3) else (bif Nat.blt k 97 then (3) else (1))))))) else (bif Nat.blt k 114 then (bif Nat.blt k 106 then (bif Nat.blt k 102 then (bif Nat.blt k 100 then (bif Nat.blt k 99 then (3) else (1)) else (bif Nat.blt k 101 then (1) else (1))) else (bif Nat.blt k 104 then (bif Nat.blt k 103 then (1) else (1)) else (bif Nat.blt k 105 then (1) else (1)))) else (bif Nat.blt k 110 then (bif Nat.blt k 108 then (bif Nat.blt k 107 then (1) else (1)) else (bif Nat.blt k 109 then (1) else (1))) else (bif Nat.blt k 112 then (bif Nat.blt k 111 then (1) else (1)) else (bif Nat.blt k 113 then (1) else (1))))) else (bif Nat.blt k 122 then (bif Nat.blt k 118 then (bif Nat.blt k 116 then (bif Nat.blt k 115 then (1) else (1)) else (bif Nat.blt k 117 then (1) else (1))) else (bif Nat.blt k 120 then (bif Nat.blt k 119 then (1) else (1)) else (bif Nat.blt k 121 then (1) else (1)))) else (bif Nat.blt k 126 then (bif Nat.blt k 124 then (bif Nat.blt k 123 then (1) else (1)) else (bif Nat.blt k 125 then (1) else (1))) else (bif Nat.blt k 128 then (bif Nat.blt k 127 then (3) else (3)) else (bif Nat.blt k 129 then (1) else (bif Nat.blt k 130 then (1) else (1))))))))) else (bif Nat.blt k 196 then (bif Nat.blt k 163 then (bif Nat.blt k 147 then (bif Nat.blt k 139 then (bif Nat.blt k 135 then (bif Nat.blt k 133 then (bif Nat.blt k 132 then (1) else (0)) else (bif Nat.blt k 134 then (1) else (0))) else (bif Nat.blt k 137 then (bif Nat.blt k 136 then (1) else (1)) else (bif Nat.blt k 138 then (3) else (3)))) else (bif Nat.blt k 143 then (bif Nat.blt k 141 then (bif Nat.blt k 140 then (2) else (2)) else (bif Nat.blt k 142 then (0) else (0))) else (bif Nat.blt k 145 then (bif Nat.blt k 144 then (1) else (3)) else (bif Nat.blt k 146 then (0) else (0))))) else (bif Nat.blt k 155 then (bif Nat.blt k 151 then (bif Nat.blt k 149 then (bif Nat.blt k 148 then (0) else (0)) else (bif Nat.blt k 150 then (0) else (1))) else (bif Nat.blt k 153 then (bif Nat.blt k 152 then (1) else (0)) else (bif Nat.blt k 154 then (1) else (0)))) else (bif Nat.blt k 159 then (bif Nat.blt k 157 then (bif Nat.blt k 156 then (1) else (0)) else (bif Nat.blt k 158 then (1) else (1))) else (bif Nat.blt k 161 then (bif Nat.blt k 160 then (0) else (0)) else (bif Nat.blt k 162 then (0) else (0)))))) else (bif Nat.blt k 179 then (bif Nat.blt k 171 then (bif Nat.blt k 167 then (bif Nat.blt k 165 then (bif Nat.blt k 164 then (0) else (0)) else (bif Nat.blt k 166 then (0) else (0))) else (bif Nat.blt k 169 then (bif Nat.blt k 168 then (1) else (3)) else (bif Nat.blt k 170 then (1) else (3)))) else (bif Nat.blt k 175 then (bif Nat.blt k 173 then (bif Nat.blt k 172 then (3) else (3)) else (bif Nat.blt k 174 then (1) else (1))) else (bif Nat.blt k 177 then (bif Nat.blt k 176 then (0) else (0)) else (bif Nat.blt k 178 then (0) else (1))))) else (bif Nat.blt k 187 then (bif Nat.blt k 183 then (bif Nat.blt k 181 then (bif Nat.blt k 180 then (1) else (3)) else (bif Nat.blt k 182 then (1) else (1))) else (bif Nat.blt k 185 then (bif Nat.blt k 184 then (1) else (1)) else (bif Nat.blt k 186 then (1) else (0)))) else (bif Nat.blt k 191 then (bif Nat.blt k 189 then (bif Nat.blt k 188 then (0) else (1)) else (bif Nat.blt k 190 then (1) else (3))) else (bif Nat.blt k 193 then (bif Nat.blt k 192 then (0) else (0)) else (bif Nat.blt k 194 then (0) else (bif Nat.blt k 195 then (1) else (1)))))))) else (bif Nat.blt k 229 then (bif Nat.blt k 212 then (bif Nat.blt k 204 then (bif Nat.blt k 200 then (bif Nat.blt k 198 then (bif Nat.blt k 197 then (1) else (1)) else (bif Nat.blt k 199 then (1) else (1))) else (bif Nat.blt k 202 then (bif Nat.blt k 201 then (0) else (0)) else (bif Nat.blt k 203 then (3) else (3)))) else (bif Nat.blt k 208 then (bif Nat.blt k 206 then (bif Nat.blt k 205 then (1) else (0)) else (bif Nat.blt k 207 then (1) else (1))) else (bif Nat.blt k 210 then (bif Nat.blt k 209 then (3) else (3)) else (bif Nat.blt k 211 then (3) else (1))))) else (bif Nat.blt k 220 then (bif Nat.blt k 216 then (bif Nat.blt k 214 then (bif Nat.blt k 213 then (3) else (0)) else (bif Nat.blt k 215 then (1) else (1))) else (bif Nat.blt k 218 then (bif Nat.blt k 217 then (1) else (1)) else (bif Nat.blt k 219 then (1) else (1)))) else (bif Nat.blt k 224 then (bif Nat.blt k 222 then (bif Nat.blt k 221 then (1) else (1)) else (bif Nat.blt k 223 then (1) else (1))) else (bif Nat.blt k 226 then (bif Nat.blt k 225 then (1) else (1)) else (bif Nat.blt k 227 then (1) else (bif Nat.blt k 228 then (1) else (1))))))) else (bif Nat.blt k 245 then (bif Nat.blt k 237 then (bif Nat.blt k 233 then (bif Nat.blt k 231 then (bif Nat.blt k 230 then (1) else (1)) else (bif Nat.blt k 232 then (1) else (1))) else (bif Nat.blt k 235 then (bif Nat.blt k 234 then (1) else (1)) else (bif Nat.blt k 236 then (1) else (1)))) else (bif Nat.blt k 241 then (bif Nat.blt k 239 then (bif Nat.blt k 238 then (1) else (1)) else (bif Nat.blt k 240 then (1) else (3))) else (bif Nat.blt k 243 then (bif Nat.blt k 242 then (1) else (1)) else (bif Nat.blt k 244 then (3) else (3))))) else (bif Nat.blt k 253 then (bif Nat.blt k 249 then (bif Nat.blt k 247 then (bif Nat.blt k 246 then (1) else (1)) else (bif Nat.blt k 248 then (0) else (1))) else (bif Nat.blt k 251 then (bif Nat.blt k 250 then (5) else (1)) else (bif Nat.blt k 252 then (1) else (4)))) else (bif Nat.blt k 257 then (bif Nat.blt k 255 then (bif Nat.blt k 254 then (3) else (0)) else (bif Nat.blt k 256 then (5) else (3))) else (bif Nat.blt k 259 then (bif Nat.blt k 258 then (1) else (1)) else (bif Nat.blt k 260 then (1) else (bif Nat.blt k 261 then (1) else (1)))))))))
noncomputable def x_mi (k : Nat) : Bool := bif Nat.blt k 131 then (bif Nat.blt k 65 then (bif Nat.blt k 32 then (bif Nat.blt k 16 then (bif Nat.blt k 8 then (bif Nat.blt k 4 then (bif Nat.blt k 2 then (bif Nat.blt k 1 then (false) else (true)) else (bif Nat.blt k 3 then (false) else (false))) else (bif Nat.blt k 6 then (bif Nat.blt k 5 then (false) else (true)) else (bif Nat.blt k 7 then (false) else (false)))) else (bif Nat.blt k 12 then (bif Nat.blt k 10 then (bif Nat.blt k 9 then (false) else (false)) else (bif Nat.blt k 11 then (false) else (false))) else (bif Nat.blt k 14 then (bif Nat.blt k 13 then (false) else (false)) else (bif Nat.blt k 15 then (true) else (false))))) else (bif Nat.blt k 24 then (bif Nat.blt k 20 then (bif Nat.blt k 18 then (bif Nat.blt k 17 then (false) else (false)) else (bif Nat.blt k 19 then (false) else (true))) else (bif Nat.blt k 22 then (bif Nat.blt k 21 then (false) else (false)) else (bif Nat.blt k 23 then (false) else (false)))) else (bif Nat.blt k 28 then (bif Nat.blt k 26 then (bif Nat.blt k 25 then (false) else (false)) else (bif Nat.blt k 27 then (false) else (false))) else (bif Nat.blt k 30 then (bif Nat.blt k 29 then (false) else (false)) else (bif Nat.blt k 31 then (false) else (false)))))) else (bif Nat.blt k 48 then (bif Nat.blt k 40 then (bif Nat.blt k 36 then (bif Nat.blt k 34 then (bif Nat.blt k 33 then (false) else (false)) else (bif Nat.blt k 35 then (false) else (false))) else (bif Nat.blt k 38 then (bif Nat.blt k 37 then (false) else (false)) else (bif Nat.blt k 39 then (false) else (true)))) else (bif Nat.blt k 44 then (bif Nat.blt k 42 then (bif Nat.blt k 41 then (false) else (false)) else (bif Nat.blt k 43 then (false) else (false))) else (bif Nat.blt k 46 then (bif Nat.blt k 45 then (true) else (false)) else (bif Nat.blt k 47 then (false) else (false))))) else (bif Nat.blt k 56 then (bif Nat.blt k 52 then (bif Nat.blt k 50 then (bif Nat.blt k 49 then (false) else (false)) else (bif Nat.blt k 51 then (false) else (true))) else (bif Nat.blt k 54 then (bif Nat.blt k 53 then (false) else (false)) else (bif Nat.blt k 55 then (false) else (false)))) else (bif Nat.blt k 60 then (bif Nat.blt k 58 then (bif Nat.blt k 57 then (false) else (false)) else (bif Nat.blt k 59 then (false) else (false))) else (bif Nat.blt k 62 then (bif Nat.blt k 61 then (false) else (false)) else (bif Nat.blt k 63 then (false) else (bif Nat.blt k 64 then (false) else (false)))))))) else (bif Nat.blt k 98 then (bif Nat.blt k 81 then (bif Nat.blt k 73 then (bif Nat.blt k 69 then (bif Nat.blt k 67 then (bif Nat.blt k 66 then (false) else (false)) else (bif Nat.blt k 68 then (true) else (false))) else (bif Nat.blt k 71 then (bif Nat.blt k 70 then (false) else (false)) else (bif Nat.blt k 72 then (false) else (false)))) else (bif Nat.blt k 77 then (bif Nat.blt k 75 then (bif Nat.blt k 74 then (false) else (false)) else (bif Nat.blt k 76 then (false) else (false))) else (bif Nat.blt k 79 then (bif Nat.blt k 78 then (false) else (false)) else (bif Nat.blt k 80 then (false) else (false))))) else (bif Nat.blt k 89 then (bif Nat.blt k 85 then (bif Nat.blt k 83 then (bif Nat.blt k 82 then (true) else (false)) else (bif Nat.blt k 84 then (false) else (false))) else (bif Nat.blt k 87 then (bif Nat.blt k 86 then (false) else (false)) else (bif Nat.blt k 88 then (false) else (false)))) else (bif Nat.blt k 93 then (bif Nat.blt k 91 then (bif Nat.blt k 90 then (false) else (false)) else (bif Nat.blt k 92 then (false) else (false))) else (bif Nat.blt k 95 then (bif Nat.blt k 94 then (false) else (false)) else (bif Nat.blt k 96 then (false) else (bif Nat.blt k 97 then (false) else (false))))))) else (bif Nat.blt k 114 then (bif Nat.blt k 106 then (bif Nat.blt k 102 then (bif Nat.blt k 100 then (bif Nat.blt k 99 then (false) else (false)) else (bif Nat.blt k 101 then (false) else (false))) else (bif Nat.blt k 104 then (bif Nat.blt k 103 then (false) else (false)) else (bif Nat.blt k 105 then (false) else (false)))) else (bif Nat.blt k 110 then (bif Nat.blt k 108 then (bif Nat.blt k 107 then (false) else (false)) else (bif Nat.blt k 109 then (false) else (false))) else (bif Nat.blt k 112 then (bif Nat.blt k 111 then (false) else (false)) else (bif Nat.blt k 113 then (false) else (false))))) else (bif Nat.blt k 122 then (bif Nat.blt k 118 then (bif Nat.blt k 116 then (bif Nat.blt k 115 then (false) else (false)) else (bif Nat.blt k 117 then (false) else (false))) else (bif Nat.blt k 120 then (bif Nat.blt k 119 then (false) else (false)) else (bif Nat.blt k 121 then (false) else (false)))) else (bif Nat.blt k 126 then (bif Nat.blt k 124 then (bif Nat.blt k 123 then (false) else (false)) else (bif Nat.blt k 125 then (false) else (false))) else (bif Nat.blt k 128 then (bif Nat.blt k 127 then (false) else (false)) else (bif Nat.blt k 129 then (false) else (bif Nat.blt k 130 then (false) else (false))))))))) else (bif Nat.blt k 196 then (bif Nat.blt k 163 then (bif Nat.blt k 147 then (bif Nat.blt k 139 then (bif Nat.blt k 135 then (bif Nat.blt k 133 then (bif Nat.blt k 132 then (false) else (true)) else (bif Nat.blt k 134 then (false) else (false))) else (bif Nat.blt k 137 then (bif Nat.blt k 136 then (false) else (false)) else (bif Nat.blt k 138 then (false) else (false)))) else (bif Nat.blt k 143 then (bif Nat.blt k 141 then (bif Nat.blt k 140 then (false) else (false)) else (bif Nat.blt k 142 then (false) else (false))) else (bif Nat.blt k 145 then (bif Nat.blt k 144 then (false) else (false)) else (bif Nat.blt k 146 then (false) else (false))))) else (bif Nat.blt k 155 then (bif Nat.blt k 151 then (bif Nat.blt k 149 then (bif Nat.blt k 148 then (false) else (false)) else (bif Nat.blt k 150 then (false) else (false))) else (bif Nat.blt k 153 then (bif Nat.blt k 152 then (false) else (false)) else (bif Nat.blt k 154 then (false) else (false)))) else (bif Nat.blt k 159 then (bif Nat.blt k 157 then (bif Nat.blt k 156 then (false) else (false)) else (bif Nat.blt k 158 then (false) else (false))) else (bif Nat.blt k 161 then (bif Nat.blt k 160 then (false) else (false)) else (bif Nat.blt k 162 then (false) else (false)))))) else (bif Nat.blt k 179 then (bif Nat.blt k 171 then (bif Nat.blt k 167 then (bif Nat.blt k 165 then (bif Nat.blt k 164 then (false) else (false)) else (bif Nat.blt k 166 then (false) else (false))) else (bif Nat.blt k 169 then (bif Nat.blt k 168 then (false) else (false)) else (bif Nat.blt k 170 then (false) else (false)))) else (bif Nat.blt k 175 then (bif Nat.blt k 173 then (bif Nat.blt k 172 then (false) else (false)) else (bif Nat.blt k 174 then (false) else (false))) else (bif Nat.blt k 177 then (bif Nat.blt k 176 then (false) else (false)) else (bif Nat.blt k 178 then (false) else (false))))) else (bif Nat.blt k 187 then (bif Nat.blt k 183 then (bif Nat.blt k 181 then (bif Nat.blt k 180 then (false) else (false)) else (bif Nat.blt k 182 then (false) else (false))) else (bif Nat.blt k 185 then (bif Nat.blt k 184 then (false) else (false)) else (bif Nat.blt k 186 then (false) else (false)))) else (bif Nat.blt k 191 then (bif Nat.blt k 189 then (bif Nat.blt k 188 then (false) else (false)) else (bif Nat.blt k 190 then (false) else (false))) else (bif Nat.blt k 193 then (bif Nat.blt k 192 then (false) else (false)) else (bif Nat.blt k 194 then (false) else (bif Nat.blt k 195 then (false) else (false)))))))) else (bif Nat.blt k 229 then (bif Nat.blt k 212 then (bif Nat.blt k 204 then (bif Nat.blt k 200 then (bif Nat.blt k 198 then (bif Nat.blt k 197 then (false) else (false)) else (bif Nat.blt k 199 then (false) else (false))) else (bif Nat.blt k 202 then (bif Nat.blt k 201 then (false) else (false)) else (bif Nat.blt k 203 then (false) else (false)))) else (bif Nat.blt k 208 then (bif Nat.blt k 206 then (bif Nat.blt k 205 then (false) else (false)) else (bif Nat.blt k 207 then (false) else (false))) else (bif Nat.blt k 210 then (bif Nat.blt k 209 then (false) else (false)) else (bif Nat.blt k 211 then (false) else (false))))) else (bif Nat.blt k 220 then (bif Nat.blt k 216 then (bif Nat.blt k 214 then (bif Nat.blt k 213 then (false) else (false)) else (bif Nat.blt k 215 then (false) else (false))) else (bif Nat.blt k 218 then (bif Nat.blt k 217 then (false) else (false)) else (bif Nat.blt k 219 then (false) else (false)))) else (bif Nat.blt k 224 then (bif Nat.blt k 222 then (bif Nat.blt k 221 then (false) else (false)) else (bif Nat.blt k 223 then (false) else (false))) else (bif Nat.blt k 226 then (bif Nat.blt k 225 then (false) else (false)) else (bif Nat.blt k 227 then (false) else (bif Nat.blt k 228 then (false) else (false))))))) else (bif Nat.blt k 245 then (bif Nat.blt k 237 then (bif Nat.blt k 233 then (bif Nat.blt k 231 then (bif Nat.blt k 230 then (false) else (false)) else (bif Nat.blt k 232 then (false) else (false))) else (bif Nat.blt k 235 then (bif Nat.blt k 234 then (false) else (false)) else (bif Nat.blt k 236 then (false) else (false)))) else (bif Nat.blt k 241 then (bif Nat.blt k 239 then (bif Nat.blt k 238 then (false) else (false)) else (bif Nat.blt k 240 then (false) else (false))) else (bif Nat.blt k 243 then (bif Nat.blt k 242 then (false) else (false)) else (bif Nat.blt k 244 then (false) else (false))))) else (bif Nat.blt k 253 then (bif Nat.blt k 249 then (bif Nat.blt k 247 then (bif Nat.blt k 246 then (false) else (false)) else (bif Nat.blt k 248 then (false) else (false))) else (bif Nat.blt k 251 then (bif Nat.blt k 250 then (false) else (false)) else (bif Nat.blt k 252 then (false) else (false)))) else (bif Nat.blt k 257 then (bif Nat.blt k 255 then (bif Nat.blt k 254 then (false) else (false)) else (bif Nat.blt k 256 then (false) else (false))) else (bif Nat.blt k 259 then (bif Nat.blt k 258 then (false) else (false)) else (bif Nat.blt k 260 then (false) else (bif Nat.blt k 261 then (false) else (false)))))))))
noncomputable def x_ml (k : Nat) : Nat := bif Nat.blt k 131 then (bif Nat.blt k 65 then (bif Nat.blt k 32 then (bif Nat.blt k 16 then (bif Nat.blt k 8 then (bif Nat.blt k 4 then (bif Nat.blt k 2 then (bif Nat.blt k 1 then (1495) else (41)) else (bif Nat.blt k 3 then (6) else (46))) else (bif Nat.blt k 6 then (bif Nat.blt k 5 then (50) else (50)) else (bif Nat.blt k 7 then (14) else (41)))) else (bif Nat.blt k 12 then (bif Nat.blt k 10 then (bif Nat.blt k 9 then (23) else (16)) else (bif Nat.blt k 11 then (48) else (8))) else (bif Nat.blt k 14 then (bif Nat.blt k 13 then (233) else (42)) else (bif Nat.blt k 15 then (45) else (69))))) else (bif Nat.blt k 24 then (bif Nat.blt k 20 then (bif Nat.blt k 18 then (bif Nat.blt k 17 then (77) else (78)) else (bif Nat.blt k 19 then (34) else (47))) else (bif Nat.blt k 22 then (bif Nat.blt k 21 then (115) else (135)) else (bif Nat.blt k 23 then (47) else (7)))) else (bif Nat.blt k 28 then (bif Nat.blt k 26 then (bif Nat.blt k 25 then (123) else (170)) else (bif Nat.blt k 27 then (52) else (106))) else (bif Nat.blt k 30 then (bif Nat.blt k 29 then (148) else (108)) else (bif Nat.blt k 31 then (208) else (85)))))) else (bif Nat.blt k 48 then (bif Nat.blt k 40 then (bif Nat.blt k 36 then (bif Nat.blt k 34 then (bif Nat.blt k 33 then (85) else (143)) else (bif Nat.blt k 35 then (26) else (33))) else (bif Nat.blt k 38 then (bif Nat.blt k 37 then (37) else (55)) else (bif Nat.blt k 39 then (36) else (26)))) else (bif Nat.blt k 44 then (bif Nat.blt k 42 then (bif Nat.blt k 41 then (48) else (62)) else (bif Nat.blt k 43 then (15) else (43))) else (bif Nat.blt k 46 then (bif Nat.blt k 45 then (32) else (99)) else (bif Nat.blt k 47 then (47) else (92))))) else (bif Nat.blt k 56 then (bif Nat.blt k 52 then (bif Nat.blt k 50 then (bif Nat.blt k 49 then (128) else (97)) else (bif Nat.blt k 51 then (90) else (114))) else (bif Nat.blt k 54 then (bif Nat.blt k 53 then (51) else (18)) else (bif Nat.blt k 55 then (18) else (18)))) else (bif Nat.blt k 60 then (bif Nat.blt k 58 then (bif Nat.blt k 57 then (171) else (59)) else (bif Nat.blt k 59 then (36) else (29))) else (bif Nat.blt k 62 then (bif Nat.blt k 61 then (26) else (35)) else (bif Nat.blt k 63 then (122) else (bif Nat.blt k 64 then (72) else (47)))))))) else (bif Nat.blt k 98 then (bif Nat.blt k 81 then (bif Nat.blt k 73 then (bif Nat.blt k 69 then (bif Nat.blt k 67 then (bif Nat.blt k 66 then (96) else (161)) else (bif Nat.blt k 68 then (126) else (67))) else (bif Nat.blt k 71 then (bif Nat.blt k 70 then (87) else (19)) else (bif Nat.blt k 72 then (41) else (41)))) else (bif Nat.blt k 77 then (bif Nat.blt k 75 then (bif Nat.blt k 74 then (23) else (213)) else (bif Nat.blt k 76 then (64) else (107))) else (bif Nat.blt k 79 then (bif Nat.blt k 78 then (97) else (160)) else (bif Nat.blt k 80 then (26) else (18))))) else (bif Nat.blt k 89 then (bif Nat.blt k 85 then (bif Nat.blt k 83 then (bif Nat.blt k 82 then (142) else (47)) else (bif Nat.blt k 84 then (47) else (29))) else (bif Nat.blt k 87 then (bif Nat.blt k 86 then (99) else (21)) else (bif Nat.blt k 88 then (5) else (118)))) else (bif Nat.blt k 93 then (bif Nat.blt k 91 then (bif Nat.blt k 90 then (72) else (72)) else (bif Nat.blt k 92 then (38) else (55))) else (bif Nat.blt k 95 then (bif Nat.blt k 94 then (150) else (73)) else (bif Nat.blt k 96 then (59) else (bif Nat.blt k 97 then (49) else (59))))))) else (bif Nat.blt k 114 then (bif Nat.blt k 106 then (bif Nat.blt k 102 then (bif Nat.blt k 100 then (bif Nat.blt k 99 then (12) else (22)) else (bif Nat.blt k 101 then (25) else (87))) else (bif Nat.blt k 104 then (bif Nat.blt k 103 then (74) else (58)) else (bif Nat.blt k 105 then (78) else (98)))) else (bif Nat.blt k 110 then (bif Nat.blt k 108 then (bif Nat.blt k 107 then (31) else (97)) else (bif Nat.blt k 109 then (116) else (58))) else (bif Nat.blt k 112 then (bif Nat.blt k 111 then (76) else (63)) else (bif Nat.blt k 113 then (99) else (113))))) else (bif Nat.blt k 122 then (bif Nat.blt k 118 then (bif Nat.blt k 116 then (bif Nat.blt k 115 then (80) else (190)) else (bif Nat.blt k 117 then (36) else (60))) else (bif Nat.blt k 120 then (bif Nat.blt k 119 then (25) else (133)) else (bif Nat.blt k 121 then (55) else (83)))) else (bif Nat.blt k 126 then (bif Nat.blt k 124 then (bif Nat.blt k 123 then (47) else (18)) else (bif Nat.blt k 125 then (194) else (117))) else (bif Nat.blt k 128 then (bif Nat.blt k 127 then (33) else (42)) else (bif Nat.blt k 129 then (267) else (bif Nat.blt k 130 then (29) else (29))))))))) else (bif Nat.blt k 196 then (bif Nat.blt k 163 then (bif Nat.blt k 147 then (bif Nat.blt k 139 then (bif Nat.blt k 135 then (bif Nat.blt k 133 then (bif Nat.blt k 132 then (19) else (965)) else (bif Nat.blt k 134 then (47) else (37))) else (bif Nat.blt k 137 then (bif Nat.blt k 136 then (29) else (23)) else (bif Nat.blt k 138 then (18) else (18)))) else (bif Nat.blt k 143 then (bif Nat.blt k 141 then (bif Nat.blt k 140 then (22) else (33)) else (bif Nat.blt k 142 then (52) else (295))) else (bif Nat.blt k 145 then (bif Nat.blt k 144 then (106) else (26)) else (bif Nat.blt k 146 then (27) else (57))))) else (bif Nat.blt k 155 then (bif Nat.blt k 151 then (bif Nat.blt k 149 then (bif Nat.blt k 148 then (29) else (21)) else (bif Nat.blt k 150 then (118) else (239))) else (bif Nat.blt k 153 then (bif Nat.blt k 152 then (5) else (22)) else (bif Nat.blt k 154 then (18) else (468)))) else (bif Nat.blt k 159 then (bif Nat.blt k 157 then (bif Nat.blt k 156 then (57) else (49)) else (bif Nat.blt k 158 then (77) else (57))) else (bif Nat.blt k 161 then (bif Nat.blt k 160 then (119) else (59)) else (bif Nat.blt k 162 then (188) else (48)))))) else (bif Nat.blt k 179 then (bif Nat.blt k 171 then (bif Nat.blt k 167 then (bif Nat.blt k 165 then (bif Nat.blt k 164 then (31) else (92)) else (bif Nat.blt k 166 then (273) else (94))) else (bif Nat.blt k 169 then (bif Nat.blt k 168 then (172) else (16)) else (bif Nat.blt k 170 then (20) else (17)))) else (bif Nat.blt k 175 then (bif Nat.blt k 173 then (bif Nat.blt k 172 then (17) else (17)) else (bif Nat.blt k 174 then (27) else (14))) else (bif Nat.blt k 177 then (bif Nat.blt k 176 then (96) else (27)) else (bif Nat.blt k 178 then (40) else (19))))) else (bif Nat.blt k 187 then (bif Nat.blt k 183 then (bif Nat.blt k 181 then (bif Nat.blt k 180 then (19) else (42)) else (bif Nat.blt k 182 then (32) else (37))) else (bif Nat.blt k 185 then (bif Nat.blt k 184 then (41) else (48)) else (bif Nat.blt k 186 then (161) else (70)))) else (bif Nat.blt k 191 then (bif Nat.blt k 189 then (bif Nat.blt k 188 then (32) else (81)) else (bif Nat.blt k 190 then (27) else (35))) else (bif Nat.blt k 193 then (bif Nat.blt k 192 then (42) else (18)) else (bif Nat.blt k 194 then (201) else (bif Nat.blt k 195 then (88) else (40)))))))) else (bif Nat.blt k 229 then (bif Nat.blt k 212 then (bif Nat.blt k 204 then (bif Nat.blt k 200 then (bif Nat.blt k 198 then (bif Nat.blt k 197 then (83) else (65)) else (bif Nat.blt k 199 then (29) else (49))) else (bif Nat.blt k 202 then (bif Nat.blt k 201 then (63) else (272)) else (bif Nat.blt k 203 then (20) else (44)))) else (bif Nat.blt k 208 then (bif Nat.blt k 206 then (bif Nat.blt k 205 then (96) else (98)) else (bif Nat.blt k 207 then (99) else (24))) else (bif Nat.blt k 210 then (bif Nat.blt k 209 then (56) else (51)) else (bif Nat.blt k 211 then (37) else (45))))) else (bif Nat.blt k 220 then (bif Nat.blt k 216 then (bif Nat.blt k 214 then (bif Nat.blt k 213 then (55) else (10)) else (bif Nat.blt k 215 then (54) else (46))) else (bif Nat.blt k 218 then (bif Nat.blt k 217 then (20) else (37)) else (bif Nat.blt k 219 then (52) else (47)))) else (bif Nat.blt k 224 then (bif Nat.blt k 222 then (bif Nat.blt k 221 then (30) else (55)) else (bif Nat.blt k 223 then (74) else (89))) else (bif Nat.blt k 226 then (bif Nat.blt k 225 then (118) else (70)) else (bif Nat.blt k 227 then (26) else (bif Nat.blt k 228 then (61) else (88))))))) else (bif Nat.blt k 245 then (bif Nat.blt k 237 then (bif Nat.blt k 233 then (bif Nat.blt k 231 then (bif Nat.blt k 230 then (92) else (85)) else (bif Nat.blt k 232 then (172) else (195))) else (bif Nat.blt k 235 then (bif Nat.blt k 234 then (66) else (39)) else (bif Nat.blt k 236 then (95) else (29)))) else (bif Nat.blt k 241 then (bif Nat.blt k 239 then (bif Nat.blt k 238 then (73) else (95)) else (bif Nat.blt k 240 then (12) else (82))) else (bif Nat.blt k 243 then (bif Nat.blt k 242 then (136) else (227)) else (bif Nat.blt k 244 then (51) else (58))))) else (bif Nat.blt k 253 then (bif Nat.blt k 249 then (bif Nat.blt k 247 then (bif Nat.blt k 246 then (41) else (342)) else (bif Nat.blt k 248 then (21) else (11))) else (bif Nat.blt k 251 then (bif Nat.blt k 250 then (25) else (7)) else (bif Nat.blt k 252 then (37) else (15)))) else (bif Nat.blt k 257 then (bif Nat.blt k 255 then (bif Nat.blt k 254 then (19) else (10)) else (bif Nat.blt k 256 then (15) else (17))) else (bif Nat.blt k 259 then (bif Nat.blt k 258 then (37) else (33)) else (bif Nat.blt k 260 then (18) else (bif Nat.blt k 261 then (11) else (11)))))))))
noncomputable def x_fl (o : Nat) : List (Nat × (Nat × Nat × Nat × Nat)) := bif Nat.blt o 5 then (bif Nat.blt o 2 then (bif Nat.blt o 1 then (bif Nat.beq o 0 then [(11, (0, 2, 2, 379)), (18, (0, 0, 0, 376)), (22, (0, 1, 0, 378))] else []) else (bif Nat.beq o 1 then [(9, (1, 0, 2, 168)), (15, (1, 2, 2, 172)), (18, (1, 3, 2, 173)), (21, (1, 4, 2, 174)), (24, (1, 5, 2, 175)), (30, (1, 1, 0, 170)), (40, (4, 1, 0, 341)), (45, (4, 0, 0, 337))] else [])) else (bif Nat.blt o 3 then (bif Nat.beq o 2 then [(9, (2, 1, 2, 395)), (15, (2, 2, 2, 396)), (18, (2, 3, 2, 397)), (21, (2, 4, 2, 398)), (25, (2, 5, 2, 399)), (28, (2, 0, 0, 393)), (44, (7, 0, 0, 421))] else []) else (bif Nat.blt o 4 then (bif Nat.beq o 3 then [(9, (3, 0, 0, 294)), (18, (3, 2, 2, 298)), (25, (3, 1, 2, 296)), (29, (3, 7, 2, 303)), (33, (3, 8, 2, 304)), (43, (3, 3, 0, 299)), (46, (3, 9, 0, 305)), (49, (3, 4, 0, 300)), (52, (3, 5, 0, 301)), (55, (3, 6, 0, 302)), (58, (5, 0, 2, 134)), (66, (5, 1, 2, 136)), (91, (6, 0, 0, 196)), (104, (5, 2, 2, 138)), (107, (6, 3, 2, 206)), (114, (6, 1, 0, 200)), (117, (6, 4, 2, 209)), (124, (6, 5, 2, 212)), (131, (6, 6, 2, 215)), (134, (6, 10, 0, 230)), (137, (6, 9, 2, 227)), (140, (6, 2, 0, 203)), (143, (6, 7, 2, 220)), (146, (6, 8, 2, 224)), (149, (6, 11, 0, 234)), (152, (6, 12, 0, 237)), (155, (6, 13, 0, 239)), (158, (6, 14, 2, 242)), (162, (1, 1, 0, 171)), (176, (1, 0, 2, 169))] else []) else (bif Nat.beq o 4 then [(9, (4, 2, 0, 344)), (15, (4, 4, 2, 348)), (19, (4, 5, 2, 352)), (22, (4, 0, 0, 335)), (25, (6, 12, 0, 235)), (30, (4, 1, 0, 340)), (33, (4, 3, 0, 346)), (36, (6, 9, 2, 226))] else [])))) else (bif Nat.blt o 8 then (bif Nat.blt o 6 then (bif Nat.beq o 5 then [(9, (5, 0, 2, 133)), (15, (5, 1, 2, 135)), (18, (5, 2, 2, 137))] else []) else (bif Nat.blt o 7 then (bif Nat.beq o 6 then [(9, (6, 3, 2, 205)), (15, (6, 4, 2, 208)), (18, (6, 5, 2, 211)), (21, (6, 6, 2, 214)), (24, (6, 7, 2, 218)), (27, (6, 8, 2, 221)), (30, (6, 9, 2, 225)), (36, (6, 14, 2, 241)), (40, (6, 15, 2, 243)), (43, (6, 16, 2, 246)), (46, (6, 17, 2, 248)), (49, (6, 18, 2, 249)), (52, (6, 19, 2, 252)), (58, (6, 0, 0, 195)), (62, (6, 1, 0, 199)), (65, (6, 2, 0, 202)), (68, (6, 10, 0, 228)), (71, (6, 11, 0, 232)), (74, (6, 12, 0, 236)), (77, (6, 13, 0, 238)), (99, (4, 4, 2, 351)), (125, (4, 1, 0, 342)), (128, (4, 0, 0, 338))] else []) else (bif Nat.beq o 7 then [(9, (7, 1, 2, 423)), (15, (7, 2, 2, 425)), (18, (7, 3, 2, 427)), (21, (7, 4, 2, 429)), (24, (7, 5, 2, 431)), (27, (7, 6, 2, 433)), (30, (7, 7, 2, 435)), (33, (7, 8, 2, 437)), (37, (7, 9, 2, 439)), (40, (7, 10, 2, 440)), (43, (7, 11, 2, 441)), (46, (7, 12, 2, 442)), (49, (7, 13, 2, 443)), (52, (7, 14, 2, 444)), (59, (7, 0, 0, 420)), (67, (4, 0, 0, 336)), (80, (7, 15, 0, 445)), (83, (7, 16, 0, 446)), (92, (6, 8, 2, 222)), (97, (6, 10, 0, 229)), (98, (6, 18, 2, 250)), (101, (6, 11, 0, 233)), (104, (6, 0, 0, 197)), (107, (6, 15, 2, 244)), (114, (4, 4, 2, 350)), (128, (6, 6, 2, 216))] else []))) else (bif Nat.blt o 9 then (bif Nat.beq o 8 then [(9, (8, 0, 2, 482)), (13, (8, 1, 0, 483)), (17, (8, 2, 0, 484)), (23, (8, 3, 2, 485)), (30, (8, 4, 2, 486)), (37, (8, 5, 2, 487)), (41, (8, 6, 2, 488)), (47, (8, 7, 2, 489)), (51, (8, 8, 2, 490)), (55, (8, 9, 2, 491)), (62, (8, 10, 2, 492)), (69, (8, 11, 2, 493)), (81, (3, 0, 0, 295)), (82, (3, 1, 2, 297)), (93, (2, 0, 0, 394)), (103, (6, 3, 2, 207)), (107, (6, 16, 2, 247)), (110, (6, 15, 2, 245)), (113, (4, 4, 2, 349)), (120, (6, 10, 0, 231)), (126, (6, 4, 2, 210)), (129, (6, 5, 2, 213)), (132, (6, 6, 2, 217)), (138, (6, 7, 2, 219)), (141, (6, 8, 2, 223)), (144, (4, 5, 2, 353)), (163, (6, 13, 0, 240)), (173, (7, 2, 2, 426)), (176, (4, 3, 0, 347)), (179, (4, 2, 0, 345)), (182, (7, 1, 2, 424)), (185, (4, 1, 0, 343)), (191, (4, 0, 0, 339)), (209, (7, 0, 0, 422)), (213, (7, 4, 2, 430)), (216, (7, 5, 2, 432)), (219, (7, 6, 2, 434)), (226, (6, 0, 0, 198)), (229, (7, 7, 2, 436)), (232, (7, 8, 2, 438)), (242, (6, 1, 0, 201)), (248, (6, 2, 0, 204)), (251, (6, 18, 2, 251)), (254, (7, 3, 2, 428)), (276, (0, 0, 0, 377))] else []) else (bif Nat.blt o 12 then (bif Nat.beq o 9 then [(13, (9, 1, 2, 1142)), (17, (9, 3, 2, 1144)), (20, (9, 5, 2, 1146)), (24, (9, 6, 2, 1147)), (27, (9, 7, 2, 1148)), (30, (9, 8, 2, 1149)), (34, (9, 9, 2, 1150)), (37, (9, 17, 0, 1158)), (40, (9, 21, 2, 1162)), (43, (9, 22, 2, 1163)), (46, (9, 23, 2, 1164)), (49, (9, 24, 2, 1165)), (52, (9, 25, 2, 1166)), (55, (9, 26, 2, 1167)), (58, (9, 27, 2, 1168)), (61, (9, 28, 2, 1169)), (64, (9, 29, 2, 1170)), (67, (9, 30, 2, 1171)), (70, (9, 31, 2, 1172)), (73, (9, 32, 2, 1173)), (76, (9, 33, 2, 1174)), (79, (9, 34, 2, 1175)), (82, (9, 35, 2, 1176)), (85, (9, 36, 2, 1177)), (88, (9, 37, 2, 1178)), (91, (9, 38, 2, 1179)), (94, (9, 39, 2, 1180)), (97, (9, 41, 2, 1182)), (101, (9, 42, 2, 1183)), (104, (9, 43, 2, 1184)), (107, (9, 44, 2, 1185)), (110, (9, 45, 2, 1186)), (113, (9, 47, 2, 1188)), (116, (9, 48, 2, 1189)), (119, (9, 49, 2, 1190)), (122, (9, 51, 2, 1192)), (125, (9, 52, 2, 1193)), (128, (9, 54, 2, 1195)), (131, (9, 55, 2, 1196)), (134, (9, 57, 2, 1198)), (137, (9, 58, 2, 1199)), (140, (9, 59, 2, 1200)), (143, (9, 60, 2, 1201)), (146, (9, 61, 2, 1202)), (149, (9, 68, 2, 1209)), (152, (9, 69, 2, 1210)), (155, (9, 71, 2, 1212)), (158, (9, 72, 2, 1213)), (161, (9, 73, 2, 1214)), (164, (9, 74, 2, 1215)), (167, (9, 75, 2, 1216)), (170, (9, 76, 2, 1217)), (173, (9, 77, 2, 1218)), (194, (9, 2, 0, 1143)), (200, (9, 4, 0, 1145)), (205, (9, 10, 0, 1151)), (227, (9, 13, 0, 1154)), (230, (9, 11, 0, 1152)), (233, (9, 14, 0, 1155)), (236, (9, 15, 0, 1156)), (239, (9, 16, 0, 1157)), (254, (9, 12, 0, 1153)), (257, (9, 18, 0, 1159)), (260, (9, 19, 0, 1160)), (263, (9, 20, 0, 1161)), (266, (9, 40, 0, 1181)), (269, (9, 46, 0, 1187)), (275, (9, 67, 0, 1208)), (278, (9, 70, 0, 1211)), (323, (9, 50, 0, 1191)), (336, (9, 53, 1, 1194)), (344, (9, 56, 0, 1197)), (416, (9, 62, 0, 1203)), (419, (9, 63, 0, 1204)), (422, (9, 64, 0, 1205)), (425, (9, 65, 0, 1206)), (428, (9, 66, 0, 1207))] else []) else (bif Nat.beq o 12 then [(9, (12, 0, 2, 1807)), (15, (12, 1, 0, 1808))] else []))))
noncomputable def x_tl (o : Nat) : List (Nat × (Nat × Nat × Nat)) := bif Nat.blt o 6 then (bif Nat.blt o 3 then (bif Nat.blt o 1 then (bif Nat.beq o 0 then [(3, (1000, 0, 372)), (17, (39, 0, 375)), (25, (41, 1, 863))] else []) else (bif Nat.blt o 2 then (bif Nat.beq o 1 then [(3, (1000, 0, 160)), (27, (6, 0, 161)), (34, (247, 2, 165)), (48, (42, 0, 828)), (52, (13, 3, 840))] else []) else (bif Nat.beq o 2 then [(3, (1000, 0, 392)), (32, (73, 2, 1070)), (38, (247, 2, 1083)), (45, (16, 4, 1084)), (49, (260, 2, 1089))] else []))) else (bif Nat.blt o 4 then (bif Nat.beq o 3 then [(3, (1000, 0, 126)), (17, (44, 0, 129)), (24, (51, 0, 151)), (36, (45, 2, 539)), (40, (52, 0, 671)), (62, (21, 0, 672)), (69, (24, 0, 676)), (72, (25, 0, 703)), (75, (26, 0, 711)), (78, (27, 0, 715)), (81, (28, 0, 719)), (84, (29, 1, 723)), (88, (30, 1, 727)), (94, (23, 0, 680)), (97, (22, 1, 684)), (100, (37, 1, 688)), (110, (35, 3, 699)), (120, (36, 1, 707)), (127, (34, 2, 695)), (167, (31, 1, 731)), (170, (7, 2, 743)), (173, (8, 1, 747)), (179, (32, 1, 735)), (182, (33, 1, 739)), (185, (38, 3, 692))] else []) else (bif Nat.blt o 5 then (bif Nat.beq o 4 then [(3, (1000, 0, 334)), (39, (1001, 5, 770)), (45, (247, 2, 773))] else []) else (bif Nat.beq o 5 then [(3, (1000, 0, 132)), (22, (46, 3, 543)), (26, (47, 3, 546)), (30, (48, 3, 550)), (33, (49, 3, 606)), (38, (250, 1, 612)), (44, (50, 3, 554)), (51, (248, 0, 558)), (55, (249, 1, 568))] else [])))) else (bif Nat.blt o 9 then (bif Nat.blt o 7 then (bif Nat.beq o 6 then [(3, (1000, 0, 154)), (35, (5, 0, 157)), (55, (52, 0, 189)), (80, (6, 0, 193)), (81, (247, 2, 194)), (87, (57, 2, 755)), (91, (58, 4, 763)), (95, (53, 1, 759)), (104, (59, 2, 819)), (108, (9, 1, 820)), (111, (10, 1, 824)), (115, (11, 2, 832)), (118, (12, 1, 836)), (122, (131, 2, 843))] else []) else (bif Nat.blt o 8 then (bif Nat.beq o 7 then [(3, (1000, 0, 419)), (55, (74, 3, 871)), (63, (76, 1, 941)), (72, (79, 3, 886)), (76, (78, 2, 893)), (86, (261, 2, 1074)), (110, (62, 3, 875)), (117, (75, 4, 876)), (122, (59, 2, 880)), (125, (60, 2, 881)), (129, (77, 2, 945)), (133, (80, 2, 889))] else []) else (bif Nat.beq o 8 then [(3, (1000, 0, 118)), (22, (19, 0, 123)), (29, (51, 0, 328)), (36, (39, 0, 331)), (46, (1, 0, 369)), (61, (14, 0, 389)), (68, (67, 0, 416)), (73, (83, 1, 523)), (77, (20, 2, 535)), (83, (56, 0, 751)), (86, (40, 1, 766)), (90, (2, 0, 774)), (96, (86, 0, 778)), (99, (53, 1, 790)), (116, (59, 2, 791)), (123, (54, 1, 799)), (135, (55, 1, 807)), (147, (62, 3, 815)), (151, (63, 4, 850)), (155, (42, 0, 858)), (159, (3, 1, 859)), (166, (69, 4, 867)), (170, (71, 1, 897)), (188, (64, 1, 917)), (194, (4, 1, 925)), (198, (107, 2, 933)), (201, (111, 2, 957)), (205, (68, 3, 937)), (210, (70, 1, 949)), (222, (72, 2, 973)), (235, (41, 1, 1005)), (238, (65, 2, 1014)), (245, (66, 2, 1026)), (257, (15, 4, 1054)), (261, (16, 4, 1066)), (265, (17, 3, 1079)), (269, (18, 1, 1085)), (273, (43, 2, 1102)), (277, (129, 0, 1106)), (281, (130, 2, 1110)), (284, (61, 0, 1113))] else []))) else (bif Nat.blt o 12 then (bif Nat.blt o 10 then (bif Nat.beq o 9 then [(7, (1000, 0, 1122)), (176, (149, 1, 1123)), (180, (140, 7, 1127)), (184, (139, 2, 1130)), (188, (175, 0, 1134)), (191, (176, 0, 1138)), (197, (134, 1, 1380)), (208, (136, 1, 1396)), (212, (141, 4, 1400)), (216, (138, 1, 1404)), (220, (137, 1, 1407)), (223, (143, 3, 1410)), (242, (145, 1, 1426)), (245, (144, 1, 1414)), (248, (147, 0, 1430)), (251, (142, 0, 1392)), (272, (154, 0, 1418)), (281, (158, 2, 1446)), (285, (148, 1, 1438)), (288, (152, 2, 1422)), (292, (155, 0, 1434)), (296, (156, 2, 1450)), (299, (159, 0, 1454)), (302, (157, 0, 1458)), (305, (160, 0, 1462)), (308, (153, 1, 1466)), (311, (161, 1, 1470)), (314, (146, 2, 1442)), (317, (165, 0, 1474)), (320, (162, 0, 1490)), (326, (163, 2, 1482)), (329, (166, 0, 1478)), (332, (164, 1, 1486)), (340, (168, 3, 1506)), (348, (178, 2, 1620)), (351, (180, 2, 1517)), (355, (182, 1, 1525)), (358, (183, 2, 1529)), (361, (167, 2, 1577)), (364, (186, 0, 1569)), (367, (187, 1, 1565)), (370, (184, 2, 1521)), (373, (185, 2, 1573)), (376, (169, 3, 1581)), (379, (190, 0, 1664)), (383, (191, 0, 1660)), (386, (173, 0, 1533)), (389, (170, 1, 1502)), (392, (177, 0, 1509)), (395, (195, 1, 1513)), (398, (171, 1, 1541)), (401, (172, 1, 1549)), (404, (174, 1, 1553)), (407, (188, 2, 1561)), (410, (189, 3, 1588)), (413, (193, 1, 1604)), (431, (181, 2, 1612)), (434, (202, 0, 1628)), (437, (200, 1, 1600)), (440, (201, 2, 1608)), (443, (179, 1, 1616)), (446, (204, 1, 1596)), (449, (203, 2, 1624)), (452, (205, 0, 1632)), (455, (207, 1, 1640)), (458, (192, 1, 1656)), (461, (213, 1, 1676)), (464, (215, 1, 1684)), (467, (219, 2, 1700)), (470, (226, 1, 1728)), (473, (240, 3, 1783)), (476, (245, 1, 1803))] else []) else (bif Nat.beq o 10 then [(9, (81, 0, 115)), (12, (132, 0, 1119)), (13, (82, 5, 519)), (17, (133, 5, 1376)), (18, (84, 1, 527)), (22, (135, 1, 1384)), (23, (85, 0, 531)), (27, (150, 0, 1388)), (28, (87, 0, 782)), (31, (151, 0, 1494)), (32, (88, 2, 786)), (36, (194, 2, 1498)), (37, (89, 2, 795)), (40, (196, 2, 1537)), (41, (90, 2, 803)), (44, (197, 2, 1545)), (45, (91, 2, 811)), (48, (198, 2, 1557)), (49, (92, 3, 846)), (53, (199, 3, 1584)), (54, (93, 1, 854)), (57, (206, 1, 1592)), (58, (94, 2, 901)), (62, (208, 2, 1636)), (63, (95, 1, 905)), (67, (209, 1, 1644)), (68, (96, 1, 909)), (72, (210, 1, 1648)), (73, (97, 1, 913)), (76, (211, 1, 1652)), (77, (98, 0, 921)), (81, (212, 0, 1668)), (82, (99, 1, 929)), (85, (214, 1, 1672)), (86, (100, 1, 953)), (89, (216, 1, 1680)), (90, (101, 1, 961)), (93, (217, 1, 1688)), (94, (102, 1, 965)), (97, (218, 1, 1692)), (98, (103, 2, 969)), (101, (220, 2, 1696)), (102, (104, 1, 977)), (105, (221, 1, 1704)), (106, (105, 1, 981)), (109, (222, 1, 1708)), (110, (106, 2, 985)), (113, (223, 2, 1712)), (114, (108, 2, 989)), (117, (224, 2, 1716)), (118, (109, 2, 993)), (121, (225, 2, 1720)), (122, (110, 1, 997)), (125, (227, 1, 1724)), (126, (112, 2, 1001)), (129, (228, 2, 1731)), (130, (113, 3, 1006)), (133, (229, 3, 1735)), (134, (114, 1, 1010)), (137, (230, 1, 1739)), (138, (115, 3, 1018)), (142, (231, 3, 1743)), (143, (116, 1, 1022)), (146, (232, 1, 1747)), (147, (117, 0, 1030)), (150, (233, 0, 1751)), (151, (118, 1, 1034)), (154, (234, 1, 1755)), (155, (119, 2, 1038)), (158, (235, 2, 1759)), (159, (120, 1, 1042)), (162, (236, 1, 1763)), (163, (121, 2, 1046)), (166, (237, 2, 1767)), (167, (122, 4, 1050)), (171, (238, 4, 1771)), (172, (123, 0, 1058)), (175, (239, 0, 1775)), (176, (124, 3, 1062)), (179, (241, 3, 1779)), (180, (125, 2, 1075)), (183, (242, 2, 1787)), (184, (126, 1, 1090)), (187, (243, 1, 1791)), (188, (127, 1, 1094)), (191, (244, 1, 1795)), (192, (128, 1, 1098)), (195, (246, 1, 1799))] else [])) else (bif Nat.blt o 13 then (bif Nat.beq o 12 then [(335, (252, 0, 562)), (492, (253, 0, 572)), (495, (255, 2, 576)), (505, (248, 0, 620)), (633, (251, 2, 616)), (637, (257, 4, 621)), (1059, (259, 3, 584))] else []) else (bif Nat.beq o 13 then [(9, (254, 2, 579)), (38, (261, 2, 630)), (88, (256, 1, 624)), (92, (260, 2, 627)), (95, (258, 4, 633))] else []))))
noncomputable def x_kl (o : Nat) : List (Nat × (Nat × Int × Nat)) := bif Nat.blt o 7 then (bif Nat.beq o 5 then [(36, (2, 1, 611)), (47, (1, 10, 610)), (49, (2, 0, 557))] else []) else (bif Nat.blt o 9 then (bif Nat.beq o 7 then [(121, (0, 65536, 885)), (136, (0, 1103515245, 892))] else []) else (bif Nat.beq o 9 then [(203, (1, 27, 1133)), (347, (0, 1103515245, 1623))] else []))
noncomputable def x_nl (o : Nat) : List (Nat × (Nat × Nat)) := bif Nat.blt o 6 then (bif Nat.blt o 3 then (bif Nat.beq o 0 then [(9, (4, 373))] else []) else (bif Nat.beq o 3 then [(15, (5, 127)), (22, (6, 149))] else [])) else (bif Nat.blt o 8 then (bif Nat.beq o 6 then [(33, (1, 155))] else []) else (bif Nat.blt o 10 then (bif Nat.beq o 8 then [(20, (3, 121)), (27, (6, 327)), (34, (4, 329)), (44, (0, 367)), (59, (2, 387)), (66, (7, 414))] else []) else (bif Nat.beq o 10 then [(7, (8, 113)), (10, (9, 1117))] else [])))
noncomputable def x_fin (ci f : Nat) : Bool := bif Nat.blt ci 5 then (bif Nat.blt ci 2 then (bif Nat.blt ci 1 then ((Nat.beq f 2)) else ((Nat.beq f 0 || Nat.beq f 2 || Nat.beq f 3 || Nat.beq f 4 || Nat.beq f 5))) else (bif Nat.blt ci 3 then ((Nat.beq f 1 || Nat.beq f 2 || Nat.beq f 3 || Nat.beq f 4 || Nat.beq f 5)) else (bif Nat.blt ci 4 then ((Nat.beq f 2 || Nat.beq f 7 || Nat.beq f 8)) else ((Nat.beq f 4 || Nat.beq f 5))))) else (bif Nat.blt ci 7 then (bif Nat.blt ci 6 then ((Nat.beq f 0 || Nat.beq f 1 || Nat.beq f 2)) else ((Nat.beq f 3 || Nat.beq f 4 || Nat.beq f 5 || Nat.beq f 6 || Nat.beq f 7 || Nat.beq f 8 || Nat.beq f 9 || Nat.beq f 14 || Nat.beq f 15 || Nat.beq f 16 || Nat.beq f 17 || Nat.beq f 18 || Nat.beq f 19))) else (bif Nat.blt ci 8 then ((Nat.beq f 1 || Nat.beq f 2 || Nat.beq f 3 || Nat.beq f 4 || Nat.beq f 5 || Nat.beq f 6 || Nat.beq f 7 || Nat.beq f 8 || Nat.beq f 9 || Nat.beq f 10 || Nat.beq f 11 || Nat.beq f 12 || Nat.beq f 13 || Nat.beq f 14)) else (bif Nat.blt ci 9 then ((Nat.beq f 0 || Nat.beq f 3 || Nat.beq f 5 || Nat.beq f 6 || Nat.beq f 7 || Nat.beq f 8 || Nat.beq f 9 || Nat.beq f 10 || Nat.beq f 11)) else ((Nat.beq f 1 || Nat.beq f 3 || Nat.beq f 5 || Nat.beq f 6 || Nat.beq f 7 || Nat.beq f 8 || Nat.beq f 9 || Nat.beq f 21 || Nat.beq f 22 || Nat.beq f 23 || Nat.beq f 24 || Nat.beq f 25 || Nat.beq f 26 || Nat.beq f 27 || Nat.beq f 28 || Nat.beq f 29 || Nat.beq f 30 || Nat.beq f 31 || Nat.beq f 32 || Nat.beq f 33 || Nat.beq f 34 || Nat.beq f 35 || Nat.beq f 36 || Nat.beq f 37 || Nat.beq f 38 || Nat.beq f 39 || Nat.beq f 41 || Nat.beq f 42 || Nat.beq f 43 || Nat.beq f 44 || Nat.beq f 45 || Nat.beq f 47 || Nat.beq f 48 || Nat.beq f 49 || Nat.beq f 51 || Nat.beq f 52 || Nat.beq f 54 || Nat.beq f 55 || Nat.beq f 57 || Nat.beq f 58 || Nat.beq f 59 || Nat.beq f 60 || Nat.beq f 61 || Nat.beq f 68 || Nat.beq f 69 || Nat.beq f 71 || Nat.beq f 72 || Nat.beq f 73 || Nat.beq f 74 || Nat.beq f 75 || Nat.beq f 76 || Nat.beq f 77)))))
noncomputable def x_tx (i : Nat) : List Int := match i with
  | 0 => [99, 111, 114, 110, 101, 114, 32, 108, 97, 110, 101, 32, 104, 111, 117, 115, 101, 32, 112, 111, 115, 116, 32, 115, 101, 101, 107, 101, 114, 32, 115, 116, 114, 97, 121, 115, 32, 97, 115, 107, 115, 32, 102, 101, 97, 114, 115, 32, 116, 104, 105, 99, 107, 101, 110, 115, 32, 119, 114, 111, 110, 103, 32, 109, 105, 115, 116, 32, 115, 101, 101, 100, 32, 105, 102, 32, 116, 104, 101, 110, 32, 101, 108, 115, 101, 32, 115, 101, 110, 115, 101, 32, 100, 97, 114, 107, 32, 102, 111, 103, 32, 108, 111, 110, 103, 32, 100, 97, 121, 32, 108, 97, 110, 101, 115, 32, 119, 104, 105, 99, 104, 32, 115, 111, 108, 100, 32, 109, 105, 108, 101, 115, 32]
  | _ => [59, 61, 43, 45, 42, 47, 60, 40, 41]
