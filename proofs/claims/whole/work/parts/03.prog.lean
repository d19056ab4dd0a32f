/-! the program for the mini machine, by program (wip/whole/gen.py) out of claim/Statement.lean -/
def mj_T0 : u_T := fun k => match k with
  | 0 => ("WhoSigns", "book", "LWhoSigns$Book;", true)
  | 1 => ("WhoSigns", "image", "LWhoSigns$Book;", true)
  | 2 => ("WhoSigns", "hasImage", "Z", false)
  | 3 => ("WhoSigns", "finder", "LWhoSigns$Finder;", true)
  | 4 => ("WhoSigns", "turnout", "LWhoSigns$Turnout;", true)
  | 5 => ("WhoSigns", "reader", "LWhoSigns$Reader;", true)
  | 6 => ("WhoSigns", "sheets", "[LWhoSigns$Sheet;", true)
  | 7 => ("WhoSigns", "slots", "[LWhoSigns$Slot;", true)
  | 8 => ("WhoSigns", "waiting", "[I", true)
  | 9 => ("WhoSigns", "waits", "I", false)
  | _ => ("WhoSigns", "ownPapers", "[I", true)
def mj_T1 : u_T := fun k => match k with
  | 0 => ("WhoSigns$Book", "persons", "[LWhoSigns$Person;", true)
  | 1 => ("WhoSigns$Book", "people", "I", false)
  | 2 => ("WhoSigns$Book", "tasks", "[LWhoSigns$Step;", true)
  | 3 => ("WhoSigns$Book", "steps", "I", false)
  | 4 => ("WhoSigns$Book", "laws", "[LWhoSigns$Rule;", true)
  | 5 => ("WhoSigns$Book", "rules", "I", false)
  | 6 => ("WhoSigns$Book", "read", "[LWhoSigns$Text;", true)
  | 7 => ("WhoSigns$Book", "texts", "I", false)
  | 8 => ("WhoSigns$Book", "latest", "[I", true)
  | 9 => ("WhoSigns$Book", "offerPerson", "[I", true)
  | 10 => ("WhoSigns$Book", "offerPaper", "[I", true)
  | 11 => ("WhoSigns$Book", "offers", "I", false)
  | 12 => ("WhoSigns$Book", "log", "LWhoSigns$Log;", true)
  | 13 => ("WhoSigns$Book", "day", "I", false)
  | 14 => ("WhoSigns$Book", "z", "I", false)
  | 15 => ("WhoSigns$Book", "given", "[I", true)
  | 16 => ("WhoSigns$Book", "stack", "[I", true)
  | _ => ("WhoSigns$Book", "doers", "[I", true)
def mj_T2 : u_T := fun k => match k with
  | 0 => ("WhoSigns$Log", "days", "[I", true)
  | 1 => ("WhoSigns$Log", "steps", "[I", true)
  | 2 => ("WhoSigns$Log", "people", "[I", true)
  | _ => ("WhoSigns$Log", "rows", "I", false)
def mj_T3 : u_T := fun k => match k with
  | 0 => ("WhoSigns$Person", "office", "I", false)
  | 1 => ("WhoSigns$Person", "rank", "I", false)
  | 2 => ("WhoSigns$Person", "kin", "I", false)
  | 3 => ("WhoSigns$Person", "papers", "I", false)
  | 4 => ("WhoSigns$Person", "awayFrom", "I", false)
  | 5 => ("WhoSigns$Person", "awayTo", "I", false)
  | 6 => ("WhoSigns$Person", "standsFor", "I", false)
  | _ => ("WhoSigns$Person", "standsTill", "I", false)
def mj_T4 : u_T := fun k => match k with
  | 0 => ("WhoSigns$Step", "paper", "I", false)
  | 1 => ("WhoSigns$Step", "least", "I", false)
  | 2 => ("WhoSigns$Step", "minutes", "I", false)
  | _ => ("WhoSigns$Step", "signer", "I", false)
def mj_T5 : u_T := fun k => match k with
  | 0 => ("WhoSigns$Rule", "kind", "I", false)
  | 1 => ("WhoSigns$Rule", "one", "I", false)
  | 2 => ("WhoSigns$Rule", "other", "I", false)
  | _ => ("WhoSigns$Rule", "n", "I", false)
def mj_T6 : u_T := fun k => match k with
  | 0 => ("WhoSigns$Finder", "people", "I", false)
  | 1 => ("WhoSigns$Finder", "steps", "I", false)
  | 2 => ("WhoSigns$Finder", "openSteps", "I", false)
  | 3 => ("WhoSigns$Finder", "could", "[I", true)
  | 4 => ("WhoSigns$Finder", "left", "[I", true)
  | 5 => ("WhoSigns$Finder", "fits", "[I", true)
  | 6 => ("WhoSigns$Finder", "manyFirst", "[I", true)
  | 7 => ("WhoSigns$Finder", "manyLast", "[I", true)
  | 8 => ("WhoSigns$Finder", "manyLeast", "[I", true)
  | 9 => ("WhoSigns$Finder", "manies", "I", false)
  | 10 => ("WhoSigns$Finder", "pairedLater", "I", false)
  | 11 => ("WhoSigns$Finder", "who", "[I", true)
  | 12 => ("WhoSigns$Finder", "costs", "[I", true)
  | 13 => ("WhoSigns$Finder", "costsToCome", "[I", true)
  | 14 => ("WhoSigns$Finder", "leastCost", "I", false)
  | _ => ("WhoSigns$Finder", "found", "[I", true)
def mj_T7 : u_T := fun k => match k with
  | 0 => ("WhoSigns$Turnout", "order", "[I", true)
  | 1 => ("WhoSigns$Turnout", "waits", "[I", true)
  | _ => ("WhoSigns$Turnout", "come", "I", false)
def mj_T8 : u_T := fun k => match k with
  | 0 => ("WhoSigns$Reader", "tape", "[I", true)
  | 1 => ("WhoSigns$Reader", "length", "I", false)
  | 2 => ("WhoSigns$Reader", "sort", "I", false)
  | 3 => ("WhoSigns$Reader", "start", "I", false)
  | 4 => ("WhoSigns$Reader", "end", "I", false)
  | 5 => ("WhoSigns$Reader", "key", "I", false)
  | 6 => ("WhoSigns$Reader", "pieces", "I", false)
  | 7 => ("WhoSigns$Reader", "code", "[I", true)
  | _ => ("WhoSigns$Reader", "size", "I", false)
def mj_T9 : u_T := fun k => match k with
  | 0 => ("WhoSigns$Sheet", "sort", "I", false)
  | 1 => ("WhoSigns$Sheet", "places", "I", false)
  | _ => ("WhoSigns$Sheet", "row", "[B", true)
def mj_T10 : u_T := fun k => match k with
  | 0 => ("WhoSigns$Slot", "thing", "I", false)
  | 1 => ("WhoSigns$Slot", "number", "I", false)
  | 2 => ("WhoSigns$Slot", "rule", "LWhoSigns$Rule;", true)
  | _ => ("WhoSigns$Slot", "sheet", "LWhoSigns$Sheet;", true)
def mj_T11 : u_T := fun k => match k with
  | 0 => ("WhoSigns$Text", "key", "I", true)
  | 1 => ("WhoSigns$Text", "pieces", "I", true)
  | _ => ("WhoSigns$Text", "code", "[I", true)
def mj_T12 : u_T := fun k => match k with
  | 0 => ("WhoSignsModel", "now", "[I", true)
  | 1 => ("WhoSignsModel", "image", "[I", true)
  | 2 => ("WhoSignsModel", "aside", "[I", true)
  | 3 => ("WhoSignsModel", "hasImage", "Z", false)
  | 4 => ("WhoSignsModel", "changes", "I", false)
  | 5 => ("WhoSignsModel", "more", "[I", true)
  | 6 => ("WhoSignsModel", "does", "[I", true)
  | 7 => ("WhoSignsModel", "tape", "[I", true)
  | 8 => ("WhoSignsModel", "taped", "I", false)
  | 9 => ("WhoSignsModel", "next", "I", false)
  | 10 => ("WhoSignsModel", "from", "I", false)
  | 11 => ("WhoSignsModel", "token", "I", false)
  | 12 => ("WhoSignsModel", "value", "I", false)
  | 13 => ("WhoSignsModel", "ended", "I", false)
  | 14 => ("WhoSignsModel", "key", "I", false)
  | 15 => ("WhoSignsModel", "keys", "[C", true)
  | 16 => ("WhoSignsModel", "keyAt", "[I", true)
  | 17 => ("WhoSignsModel", "code", "[I", true)
  | 18 => ("WhoSignsModel", "codes", "I", false)
  | 19 => ("WhoSignsModel", "atoms", "I", false)
  | 20 => ("WhoSignsModel", "waits", "[I", true)
  | 21 => ("WhoSignsModel", "held", "I", false)
  | 22 => ("WhoSignsModel", "tested", "[Z", true)
  | 23 => ("WhoSignsModel", "stack", "[I", true)
  | 24 => ("WhoSignsModel", "facts", "[I", true)
  | 25 => ("WhoSignsModel", "able", "[I", true)
  | 26 => ("WhoSignsModel", "sweptDay", "I", false)
  | 27 => ("WhoSignsModel", "sweptAt", "I", false)
  | 28 => ("WhoSignsModel", "many", "I", false)
  | 29 => ("WhoSignsModel", "first", "[I", true)
  | 30 => ("WhoSignsModel", "cheapest", "[I", true)
  | 31 => ("WhoSignsModel", "firstCost", "I", false)
  | 32 => ("WhoSignsModel", "leastCost", "I", false)
  | 33 => ("WhoSignsModel", "doesIn", "[I", true)
  | 34 => ("WhoSignsModel", "most", "[I", true)
  | 35 => ("WhoSignsModel", "costs", "[I", true)
  | 36 => ("WhoSignsModel", "line", "[I", true)
  | 37 => ("WhoSignsModel", "lineWaits", "[I", true)
  | 38 => ("WhoSignsModel", "sorts", "[I", true)
  | 39 => ("WhoSignsModel", "sizes", "[I", true)
  | 40 => ("WhoSignsModel", "cells", "[I", true)
  | 41 => ("WhoSignsModel", "holds", "[I", true)
  | 42 => ("WhoSignsModel", "holdsA", "[I", true)
  | 43 => ("WhoSignsModel", "holdsB", "[I", true)
  | 44 => ("WhoSignsModel", "heldCells", "[I", true)
  | 45 => ("WhoSignsModel", "moved", "[I", true)
  | 46 => ("WhoSignsModel", "tells", "[I", true)
  | _ => ("WhoSignsModel", "waiting", "I", false)
abbrev mj_cls : List vw_C := [("WhoSigns", mj_T0, 11), ("WhoSigns$Book", mj_T1, 18), ("WhoSigns$Log", mj_T2, 4), ("WhoSigns$Person", mj_T3, 8), ("WhoSigns$Step", mj_T4, 4), ("WhoSigns$Rule", mj_T5, 4), ("WhoSigns$Finder", mj_T6, 16), ("WhoSigns$Turnout", mj_T7, 3), ("WhoSigns$Reader", mj_T8, 9), ("WhoSigns$Sheet", mj_T9, 3), ("WhoSigns$Slot", mj_T10, 4), ("WhoSigns$Text", mj_T11, 3), ("WhoSignsModel", mj_T12, 48)]
def j0 (x : Instr) : mj_Ins := (x, 0, 0, 0, [])
def j1 (x : Instr) (a : Nat) : mj_Ins := (x, a, 0, 0, [])
def j3 (x : Instr) (a b c : Nat) : mj_Ins := (x, a, b, c, [])
/-- 0 WhoSigns.<init>()V -/
def mj_k0 : List (List mj_Ins) := [[j0 (.aload 0), j0 .monitorenter, j0 (.aload 0), j1 (.new 1) 18, j0 .dup, j3 (.invokestatic 2) 1 0 2, j3 (.putfield 0) 0 1 1, j0 (.aload 0), j1 (.new 1) 18, j0 .dup, j3 (.invokestatic 2) 1 0 2, j3 (.putfield 1) 0 1 1, j0 (.aload 0), j0 (.iconst 0), j3 (.putfield 2) 0 2 0, j0 (.aload 0)],
  [j1 (.new 6) 16, j0 .dup, j3 (.invokestatic 7) 1 0 7, j3 (.putfield 3) 0 1 1, j0 (.aload 0), j1 (.new 7) 3, j0 .dup, j3 (.invokestatic 8) 1 0 8, j3 (.putfield 4) 0 1 1, j0 (.aload 0), j1 (.new 8) 9, j0 .dup, j3 (.invokestatic 9) 1 0 9, j3 (.putfield 5) 0 1 1, j0 (.aload 0), j0 (.iconst 4)],
  [j0 (.anewarray 9), j3 (.putfield 6) 0 1 1, j0 (.aload 0), j0 (.iconst 5), j0 (.anewarray 10), j3 (.putfield 7) 0 1 1, j0 (.aload 0), j0 (.iconst 60), j1 (.newarray .int) 20, j3 (.putfield 8) 0 1 1, j0 (.aload 0), j0 (.iconst 0), j3 (.putfield 9) 0 0 0, j0 (.aload 0), j0 (.iconst 7), j1 (.newarray .int) 20],
  [j3 (.putfield 10) 0 1 1, j0 (.iconst 0), j0 (.istore 1), j0 (.iload 1), j0 (.iconst 4), j1 (.if_icmp .ge 0) 63, j0 (.aload 0), j3 (.getfield 6) 0 1 1, j0 (.iload 1), j1 (.new 9) 3, j0 .dup, j3 (.invokestatic 10) 1 0 10, j0 .aastore, j0 (.iinc 1 1), j1 (.goto 0) 51, j0 (.iconst 0)],
  [j0 (.istore 1), j0 (.iload 1), j0 (.iconst 5), j1 (.if_icmp .ge 0) 77, j0 (.aload 0), j3 (.getfield 7) 0 1 1, j0 (.iload 1), j1 (.new 10) 4, j0 .dup, j3 (.invokestatic 11) 1 0 11, j0 .aastore, j0 (.iinc 1 1), j1 (.goto 0) 65, j0 .return_]]
/-- 1 java/lang/Object.<init>()V -/
def mj_k1 : List (List mj_Ins) := [[j0 .return_]]
/-- 2 WhoSigns$Book.<init>()V -/
def mj_k2 : List (List mj_Ins) := [[j0 (.aload 0), j0 .monitorenter, j0 (.aload 0), j0 (.iconst 7), j0 (.anewarray 3), j3 (.putfield 0) 1 1 1, j0 (.aload 0), j0 (.iconst 0), j3 (.putfield 1) 1 0 0, j0 (.aload 0), j0 (.iconst 6), j0 (.anewarray 4), j3 (.putfield 2) 1 1 1, j0 (.aload 0), j0 (.iconst 0), j3 (.putfield 3) 1 0 0],
  [j0 (.aload 0), j0 (.iconst 12), j0 (.anewarray 5), j3 (.putfield 4) 1 1 1, j0 (.aload 0), j0 (.iconst 0), j3 (.putfield 5) 1 0 0, j0 (.aload 0), j0 (.iconst 14), j0 (.anewarray 11), j3 (.putfield 6) 1 1 1, j0 (.aload 0), j0 (.iconst 0), j3 (.putfield 7) 1 0 0, j0 (.aload 0), j0 (.iconst 3)],
  [j1 (.newarray .int) 20, j0 .dup, j0 (.iconst 0), j0 (.iconst (-1)), j0 .iastore, j0 .dup, j0 (.iconst 1), j0 (.iconst (-1)), j0 .iastore, j0 .dup, j0 (.iconst 2), j0 (.iconst (-1)), j0 .iastore, j3 (.putfield 8) 1 1 1, j0 (.aload 0), j0 (.iconst 6)],
  [j1 (.newarray .int) 20, j3 (.putfield 9) 1 1 1, j0 (.aload 0), j0 (.iconst 6), j1 (.newarray .int) 20, j3 (.putfield 10) 1 1 1, j0 (.aload 0), j0 (.iconst 0), j3 (.putfield 11) 1 0 0, j0 (.aload 0), j1 (.new 2) 4, j0 .dup, j3 (.invokestatic 3) 1 0 3, j3 (.putfield 12) 1 1 1, j0 (.aload 0), j0 (.iconst 0)],
  [j3 (.putfield 13) 1 0 0, j0 (.aload 0), j0 (.iconst 1), j3 (.putfield 14) 1 0 0, j0 (.aload 0), j0 (.iconst 5), j1 (.newarray .int) 20, j3 (.putfield 15) 1 1 1, j0 (.aload 0), j0 (.iconst 96), j1 (.newarray .int) 20, j3 (.putfield 16) 1 1 1, j0 (.aload 0), j0 (.iconst 6), j1 (.newarray .int) 20, j3 (.putfield 17) 1 1 1],
  [j0 (.iconst 0), j0 (.istore 1), j0 (.iload 1), j0 (.iconst 7), j1 (.if_icmp .ge 0) 94, j0 (.aload 0), j3 (.getfield 0) 1 1 1, j0 (.iload 1), j1 (.new 3) 8, j0 .dup, j3 (.invokestatic 4) 1 0 4, j0 .aastore, j0 (.iinc 1 1), j1 (.goto 0) 82, j0 (.iconst 0), j0 (.istore 1)],
  [j0 (.iload 1), j0 (.iconst 6), j1 (.if_icmp .ge 0) 108, j0 (.aload 0), j3 (.getfield 2) 1 1 1, j0 (.iload 1), j1 (.new 4) 4, j0 .dup, j3 (.invokestatic 5) 1 0 5, j0 .aastore, j0 (.iinc 1 1), j1 (.goto 0) 96, j0 (.iconst 0), j0 (.istore 1), j0 (.iload 1), j0 (.iconst 12)],
  [j1 (.if_icmp .ge 0) 122, j0 (.aload 0), j3 (.getfield 4) 1 1 1, j0 (.iload 1), j1 (.new 5) 4, j0 .dup, j3 (.invokestatic 6) 1 0 6, j0 .aastore, j0 (.iinc 1 1), j1 (.goto 0) 110, j0 .return_]]
/-- 3 WhoSigns$Log.<init>()V -/
def mj_k3 : List (List mj_Ins) := [[j0 (.aload 0), j0 .monitorenter, j0 (.aload 0), j0 (.iconst 30), j1 (.newarray .int) 20, j3 (.putfield 0) 2 1 1, j0 (.aload 0), j0 (.iconst 30), j1 (.newarray .int) 20, j3 (.putfield 1) 2 1 1, j0 (.aload 0), j0 (.iconst 30), j1 (.newarray .int) 20, j3 (.putfield 2) 2 1 1, j0 (.aload 0), j0 (.iconst 0)],
  [j3 (.putfield 3) 2 0 0, j0 .return_]]
/-- 4 WhoSigns$Person.<init>()V -/
def mj_k4 : List (List mj_Ins) := [[j0 (.aload 0), j0 .monitorenter, j0 (.aload 0), j0 (.iconst 0), j3 (.putfield 0) 3 0 0, j0 (.aload 0), j0 (.iconst 0), j3 (.putfield 1) 3 0 0, j0 (.aload 0), j0 (.iconst 0), j3 (.putfield 2) 3 0 0, j0 (.aload 0), j0 (.iconst 0), j3 (.putfield 3) 3 0 0, j0 (.aload 0), j0 (.iconst 0)],
  [j3 (.putfield 4) 3 0 0, j0 (.aload 0), j0 (.iconst (-1)), j3 (.putfield 5) 3 0 0, j0 (.aload 0), j0 (.iconst (-1)), j3 (.putfield 6) 3 0 0, j0 (.aload 0), j0 (.iconst 0), j3 (.putfield 7) 3 0 0, j0 .return_]]
/-- 5 WhoSigns$Step.<init>()V -/
def mj_k5 : List (List mj_Ins) := [[j0 (.aload 0), j0 .monitorenter, j0 (.aload 0), j0 (.iconst (-1)), j3 (.putfield 0) 4 0 0, j0 (.aload 0), j0 (.iconst 0), j3 (.putfield 1) 4 0 0, j0 (.aload 0), j0 (.iconst 1), j3 (.putfield 2) 4 0 0, j0 (.aload 0), j0 (.iconst (-1)), j3 (.putfield 3) 4 0 0, j0 .return_]]
/-- 6 WhoSigns$Rule.<init>()V -/
def mj_k6 : List (List mj_Ins) := [[j0 (.aload 0), j0 .monitorenter, j0 (.aload 0), j0 (.iconst 0), j3 (.putfield 0) 5 0 0, j0 (.aload 0), j0 (.iconst 0), j3 (.putfield 1) 5 0 0, j0 (.aload 0), j0 (.iconst 1), j3 (.putfield 2) 5 0 0, j0 (.aload 0), j0 (.iconst 0), j3 (.putfield 3) 5 0 0, j0 .return_]]
/-- 7 WhoSigns$Finder.<init>()V -/
def mj_k7 : List (List mj_Ins) := [[j0 (.aload 0), j0 .monitorenter, j0 (.aload 0), j0 (.iconst 0), j3 (.putfield 0) 6 0 0, j0 (.aload 0), j0 (.iconst 0), j3 (.putfield 1) 6 0 0, j0 (.aload 0), j0 (.iconst 0), j3 (.putfield 2) 6 0 0, j0 (.aload 0), j0 (.iconst 6), j1 (.newarray .int) 20, j3 (.putfield 3) 6 1 1, j0 (.aload 0)],
  [j0 (.iconst 42), j1 (.newarray .int) 20, j3 (.putfield 4) 6 1 1, j0 (.aload 0), j0 (.iconst 252), j1 (.newarray .int) 20, j3 (.putfield 5) 6 1 1, j0 (.aload 0), j0 (.iconst 12), j1 (.newarray .int) 20, j3 (.putfield 6) 6 1 1, j0 (.aload 0), j0 (.iconst 12), j1 (.newarray .int) 20, j3 (.putfield 7) 6 1 1, j0 (.aload 0)],
  [j0 (.iconst 12), j1 (.newarray .int) 20, j3 (.putfield 8) 6 1 1, j0 (.aload 0), j0 (.iconst 0), j3 (.putfield 9) 6 0 0, j0 (.aload 0), j0 (.iconst 0), j3 (.putfield 10) 6 0 0, j0 (.aload 0), j0 (.iconst 6), j1 (.newarray .int) 20, j3 (.putfield 11) 6 1 1, j0 (.aload 0), j0 (.iconst 42), j1 (.newarray .int) 20],
  [j3 (.putfield 12) 6 1 1, j0 (.aload 0), j0 (.iconst 7), j1 (.newarray .int) 20, j3 (.putfield 13) 6 1 1, j0 (.aload 0), j0 (.iconst 1000000), j3 (.putfield 14) 6 0 0, j0 (.aload 0), j0 (.iconst 6), j1 (.newarray .int) 20, j3 (.putfield 15) 6 1 1, j0 .return_]]
/-- 8 WhoSigns$Turnout.<init>()V -/
def mj_k8 : List (List mj_Ins) := [[j0 (.aload 0), j0 .monitorenter, j0 (.aload 0), j0 (.iconst 7), j1 (.newarray .int) 20, j3 (.putfield 0) 7 1 1, j0 (.aload 0), j0 (.iconst 7), j1 (.newarray .int) 20, j3 (.putfield 1) 7 1 1, j0 (.aload 0), j0 (.iconst 0), j3 (.putfield 2) 7 0 0, j0 .return_]]
/-- 9 WhoSigns$Reader.<init>()V -/
def mj_k9 : List (List mj_Ins) := [[j0 (.aload 0), j0 .monitorenter, j0 (.aload 0), j0 (.iconst 96), j1 (.newarray .int) 20, j3 (.putfield 0) 8 1 1, j0 (.aload 0), j0 (.iconst 0), j3 (.putfield 1) 8 0 0, j0 (.aload 0), j0 (.iconst 0), j3 (.putfield 2) 8 0 0, j0 (.aload 0), j0 (.iconst 0), j3 (.putfield 3) 8 0 0, j0 (.aload 0)],
  [j0 (.iconst 0), j3 (.putfield 4) 8 0 0, j0 (.aload 0), j0 (.iconst 0), j3 (.putfield 5) 8 0 0, j0 (.aload 0), j0 (.iconst 0), j3 (.putfield 6) 8 0 0, j0 (.aload 0), j0 (.iconst 96), j1 (.newarray .int) 20, j3 (.putfield 7) 8 1 1, j0 (.aload 0), j0 (.iconst 0), j3 (.putfield 8) 8 0 0, j0 .return_]]
/-- 10 WhoSigns$Sheet.<init>()V -/
def mj_k10 : List (List mj_Ins) := [[j0 (.aload 0), j0 .monitorenter, j0 (.aload 0), j0 (.iconst (-1)), j3 (.putfield 0) 9 0 0, j0 (.aload 0), j0 (.iconst 0), j3 (.putfield 1) 9 0 0, j0 (.aload 0), j0 (.iconst 24), j1 (.newarray .byte) 21, j3 (.putfield 2) 9 1 1, j0 .return_]]
/-- 11 WhoSigns$Slot.<init>()V -/
def mj_k11 : List (List mj_Ins) := [[j0 (.aload 0), j0 .monitorenter, j0 (.aload 0), j0 (.iconst 0), j3 (.putfield 0) 10 0 0, j0 (.aload 0), j0 (.iconst 0), j3 (.putfield 1) 10 0 0, j0 (.aload 0), j1 (.new 5) 4, j0 .dup, j3 (.invokestatic 6) 1 0 6, j3 (.putfield 2) 10 1 1, j0 (.aload 0), j1 (.new 9) 3, j0 .dup],
  [j3 (.invokestatic 10) 1 0 10, j3 (.putfield 3) 10 1 1, j0 .return_]]
/-- 12 WhoSigns.person(III)I -/
def mj_k12 : List (List mj_Ins) := [[j0 (.iload 1), j0 (.iconst 0), j0 (.iconst 4), j3 (.invokestatic 13) 3 1 0, j1 (.ifCond .eq 0) 15, j0 (.iload 2), j0 (.iconst 0), j0 (.iconst 9), j3 (.invokestatic 13) 3 1 0, j1 (.ifCond .eq 0) 15, j0 (.iload 3), j0 (.iconst 0), j0 (.iconst 9), j3 (.invokestatic 13) 3 1 0, j1 (.ifCond .ne 0) 17, j0 (.iconst (-1000000001))],
  [j1 .ireturn 0, j0 (.aload 0), j3 (.getfield 0) 0 1 1, j3 (.getfield 1) 1 0 0, j0 (.iconst 7), j1 (.if_icmp .lt 0) 24, j0 (.iconst (-1000000003)), j1 .ireturn 0, j0 (.aload 0), j3 (.getfield 0) 0 1 1, j3 (.getfield 0) 1 1 1, j0 (.aload 0), j3 (.getfield 0) 0 1 1, j3 (.getfield 1) 1 0 0, j0 .aaload, j0 (.iload 1)],
  [j0 (.iload 2), j0 (.iload 3), j3 (.invokestatic 14) 4 0 4, j0 (.aload 0), j3 (.getfield 0) 0 1 1, j0 .dup, j3 (.getfield 1) 1 0 0, j0 (.iconst 1), j0 .iadd, j3 (.putfield 1) 1 0 0, j0 (.aload 0), j3 (.getfield 0) 0 1 1, j3 (.getfield 1) 1 0 0, j0 (.iconst 1), j0 .isub, j1 .ireturn 0]]
/-- 13 WhoSigns.within(III)Z -/
def mj_k13 : List (List mj_Ins) := [[j0 (.iload 1), j0 (.iload 0), j1 (.if_icmp .gt 0) 8, j0 (.iload 0), j0 (.iload 2), j1 (.if_icmp .gt 0) 8, j0 (.iconst 1), j1 (.goto 0) 9, j0 (.iconst 0), j1 .ireturn 1]]
/-- 14 WhoSigns$Person.begin(III)V -/
def mj_k14 : List (List mj_Ins) := [[j0 (.aload 0), j0 (.iload 1), j3 (.putfield 0) 3 0 0, j0 (.aload 0), j0 (.iload 2), j3 (.putfield 1) 3 0 0, j0 (.aload 0), j0 (.iload 3), j3 (.putfield 2) 3 0 0, j0 (.aload 0), j0 (.iconst 0), j3 (.putfield 3) 3 0 0, j0 (.aload 0), j0 (.iconst 0), j3 (.putfield 4) 3 0 0, j0 (.aload 0)],
  [j0 (.iconst (-1)), j3 (.putfield 5) 3 0 0, j0 (.aload 0), j0 (.iconst (-1)), j3 (.putfield 6) 3 0 0, j0 (.aload 0), j0 (.iconst 0), j3 (.putfield 7) 3 0 0, j0 .return_]]
/-- 15 WhoSigns.personTold(II)I -/
def mj_k15 : List (List mj_Ins) := [[j0 (.aload 0), j3 (.getfield 0) 0 1 1, j0 (.iload 1), j3 (.invokestatic 16) 2 1 2, j1 (.ifCond .ne 0) 7, j0 (.iconst (-1000000001)), j1 .ireturn 0, j0 (.aload 0), j3 (.getfield 0) 0 1 1, j3 (.getfield 0) 1 1 1, j0 (.iload 1), j0 .aaload, j0 (.astore 3), j0 (.iload 2), (.lookupswitch 0 #[], 55, 0, 0, [(0, 15), (1, 18), (2, 21), (3, 24), (4, 27), (5, 34), (6, 42), (7, 50)]), j0 (.aload 3)],
  [j3 (.getfield 0) 3 0 0, j1 .ireturn 0, j0 (.aload 3), j3 (.getfield 1) 3 0 0, j1 .ireturn 0, j0 (.aload 3), j3 (.getfield 2) 3 0 0, j1 .ireturn 0, j0 (.aload 3), j3 (.getfield 3) 3 0 0, j1 .ireturn 0, j0 (.aload 3), j0 (.aload 0), j3 (.getfield 0) 0 1 1, j3 (.getfield 13) 1 0 0, j3 (.invokestatic 17) 2 1 4],
  [j3 (.invokestatic 18) 1 1 0, j1 .ireturn 0, j0 (.aload 3), j3 (.getfield 6) 3 0 0, j1 (.ifCond .ge 0) 39, j0 (.iconst (-1000000005)), j1 (.goto 0) 41, j0 (.aload 3), j3 (.getfield 6) 3 0 0, j1 .ireturn 0, j0 (.aload 3), j3 (.getfield 6) 3 0 0, j1 (.ifCond .ge 0) 47, j0 (.iconst (-1000000005)), j1 (.goto 0) 49, j0 (.aload 3)],
  [j3 (.getfield 7) 3 0 0, j1 .ireturn 0, j0 (.aload 0), j3 (.getfield 0) 0 1 1, j0 (.iload 1), j3 (.invokestatic 19) 2 1 2, j1 .ireturn 0, j0 (.iconst (-1000000001)), j1 .ireturn 0]]
/-- 16 WhoSigns$Book.hasPerson(I)Z -/
def mj_k16 : List (List mj_Ins) := [[j0 (.iload 1), j0 (.iconst 0), j0 (.aload 0), j3 (.getfield 1) 1 0 0, j0 (.iconst 1), j0 .isub, j3 (.invokestatic 13) 3 1 0, j1 .ireturn 1]]
/-- 17 WhoSigns$Person.isAway(I)Z -/
def mj_k17 : List (List mj_Ins) := [[j0 (.aload 0), j3 (.getfield 4) 3 0 0, j0 (.iload 1), j1 (.if_icmp .gt 0) 10, j0 (.iload 1), j0 (.aload 0), j3 (.getfield 5) 3 0 0, j1 (.if_icmp .gt 0) 10, j0 (.iconst 1), j1 (.goto 0) 11, j0 (.iconst 0), j1 .ireturn 1]]
/-- 18 WhoSigns.oneIf(Z)I -/
def mj_k18 : List (List mj_Ins) := [[j0 (.iload 0), j1 (.ifCond .eq 0) 4, j0 (.iconst 1), j1 (.goto 0) 5, j0 (.iconst 0), j1 .ireturn 0]]
/-- 19 WhoSigns$Book.waitOf(I)I -/
def mj_k19 : List (List mj_Ins) := [[j0 (.aload 0), j3 (.getfield 0) 1 1 1, j0 (.iload 1), j0 .aaload, j0 (.astore 2), j0 (.aload 0), j0 (.aload 0), j3 (.getfield 8) 1 1 1, j0 (.iconst 2), j0 .iaload, j3 (.invokestatic 20) 2 1 2, j0 (.astore 3), j0 (.aload 3), j1 (.ifnonnull 0) 19, j0 (.iconst 10), j0 (.aload 2)],
  [j3 (.getfield 1) 3 0 0, j0 .imul, j1 (.goto 0) 30, j0 (.aload 3), j0 (.aload 0), j0 (.aload 2), j0 (.iconst 0), j0 (.aload 0), j3 (.getfield 13) 1 0 0, j0 (.iconst 0), j3 (.invokestatic 21) 5 1 2, j0 (.aload 0), j3 (.getfield 16) 1 1 1, j3 (.invokestatic 22) 3 1 12, j1 .ireturn 0]]
/-- 20 WhoSigns$Book.textAt(I)LWhoSigns$Text; -/
def mj_k20 : List (List mj_Ins) := [[j0 (.iload 1), j0 (.iconst 0), j0 (.aload 0), j3 (.getfield 7) 1 0 0, j0 (.iconst 1), j0 .isub, j3 (.invokestatic 13) 3 1 0, j1 (.ifCond .eq 0) 13, j0 (.aload 0), j3 (.getfield 6) 1 1 1, j0 (.iload 1), j0 .aaload, j1 (.goto 0) 14, j0 .aconst_null, j1 .ireturn 4]]
/-- 21 WhoSigns$Book.names(LWhoSigns$Person;III)[I -/
def mj_k21 : List (List mj_Ins) := [[j0 (.aload 0), j3 (.getfield 15) 1 1 1, j0 (.iconst 0), j0 (.iload 2), j0 .iastore, j0 (.aload 0), j3 (.getfield 15) 1 1 1, j0 (.iconst 1), j0 (.aload 1), j3 (.getfield 1) 3 0 0, j0 .iastore, j0 (.aload 0), j3 (.getfield 15) 1 1 1, j0 (.iconst 2), j0 (.aload 1), j3 (.getfield 0) 3 0 0],
  [j0 .iastore, j0 (.aload 0), j3 (.getfield 15) 1 1 1, j0 (.iconst 3), j0 (.iload 3), j0 .iastore, j0 (.aload 0), j3 (.getfield 15) 1 1 1, j0 (.iconst 4), j0 (.iload 4), j0 .iastore, j0 (.aload 0), j3 (.getfield 15) 1 1 1, j1 .ireturn 4]]
/-- 22 WhoSigns$Text.worth([I[I)I -/
def mj_k22 : List (List mj_Ins) := [[j0 (.iconst 0), j0 (.istore 3), j0 (.iconst 0), j0 (.istore 4), j0 (.iload 4), j0 (.aload 0), j3 (.getfield 2) 11 1 1, j0 .arraylength, j1 (.if_icmp .ge 0) 81, j0 (.aload 0), j3 (.getfield 2) 11 1 1, j0 (.iload 4), j0 .iaload, j0 (.istore 5), j0 (.iload 5), j0 (.iconst (-6))],
  [j1 (.if_icmp .le 0) 35, j0 (.iload 3), j0 (.aload 2), j0 .arraylength, j1 (.if_icmp .ge 0) 79, j0 (.aload 2), j0 (.iload 3), j0 (.iload 5), j1 (.ifCond .lt 0) 27, j0 (.iload 5), j1 (.goto 0) 32, j0 (.iconst (-1)), j0 (.iload 5), j0 .isub, j0 (.aload 1), j3 (.invokestatic 23) 2 1 0],
  [j0 .iastore, j0 (.iinc 3 1), j1 (.goto 0) 79, j0 (.iload 5), j0 (.iconst (-33)), j1 (.if_icmp .ne 0) 57, j0 (.iload 3), j0 (.iconst 1), j1 (.if_icmp .lt 0) 79, j0 (.aload 2), j0 (.iload 3), j0 (.iconst 1), j0 .isub, j0 (.aload 2), j0 (.iload 3), j0 (.iconst 1)],
  [j0 .isub, j0 .iaload, j1 (.ifCond .ne 0) 53, j0 (.iconst 1), j1 (.goto 0) 54, j0 (.iconst 0), j3 (.invokestatic 18) 1 1 0, j0 .iastore, j1 (.goto 0) 79, j0 (.iload 3), j0 (.iconst 2), j1 (.if_icmp .lt 0) 79, j0 (.aload 2), j0 (.iload 3), j0 (.iconst 2), j0 .isub],
  [j0 (.iload 5), j0 .ineg, j0 (.aload 2), j0 (.iload 3), j0 (.iconst 2), j0 .isub, j0 .iaload, j0 (.aload 2), j0 (.iload 3), j0 (.iconst 1), j0 .isub, j0 .iaload, j3 (.invokestatic 24) 3 1 0, j0 .iastore, j0 (.iinc 3 (-1)), j0 (.iinc 4 1)],
  [j1 (.goto 0) 4, j0 (.iload 3), j0 (.iconst 1), j1 (.if_icmp .lt 0) 88, j0 (.aload 2), j0 (.iconst 0), j0 .iaload, j1 (.goto 0) 89, j0 (.iconst 0), j1 .ireturn 0]]
/-- 23 WhoSigns$Text.valueOf(I[I)I -/
def mj_k23 : List (List mj_Ins) := [[j0 (.iload 0), j0 (.aload 1), j0 .arraylength, j1 (.if_icmp .ge 0) 8, j0 (.aload 1), j0 (.iload 0), j0 .iaload, j1 (.goto 0) 9, j0 (.iconst 0), j1 .ireturn 0]]
/-- 24 WhoSigns$Text.joined(III)I -/
def mj_k24 : List (List mj_Ins) := [[j0 (.iload 0), (.lookupswitch 0 #[], 51, 0, 0, [(38, 10), (42, 47), (43, 39), (45, 43), (60, 18), (61, 25), (62, 32), (124, 2)]), j0 (.iload 1), j1 (.ifCond .ne 0) 6, j0 (.iload 2), j1 (.ifCond .eq 0) 8, j0 (.iconst 1), j1 (.goto 0) 9, j0 (.iconst 0), j1 .ireturn 0, j0 (.iload 1), j1 (.ifCond .eq 0) 16, j0 (.iload 2), j1 (.ifCond .eq 0) 16, j0 (.iconst 1), j1 (.goto 0) 17],
  [j0 (.iconst 0), j1 .ireturn 0, j0 (.iload 1), j0 (.iload 2), j1 (.if_icmp .ge 0) 23, j0 (.iconst 1), j1 (.goto 0) 24, j0 (.iconst 0), j1 .ireturn 0, j0 (.iload 1), j0 (.iload 2), j1 (.if_icmp .ne 0) 30, j0 (.iconst 1), j1 (.goto 0) 31, j0 (.iconst 0), j1 .ireturn 0],
  [j0 (.iload 1), j0 (.iload 2), j1 (.if_icmp .le 0) 37, j0 (.iconst 1), j1 (.goto 0) 38, j0 (.iconst 0), j1 .ireturn 0, j0 (.iload 1), j0 (.iload 2), j0 .iadd, j1 .ireturn 0, j0 (.iload 1), j0 (.iload 2), j0 .isub, j1 .ireturn 0, j0 (.iload 1)],
  [j0 (.iload 2), j0 .imul, j1 .ireturn 0, j0 (.iload 2), j1 (.ifCond .ne 0) 55, j0 (.iconst 0), j1 (.goto 0) 58, j0 (.iload 1), j0 (.iload 2), j0 .idiv, j1 .ireturn 0]]
/-- 25 WhoSigns.paper(IIZ)I -/
def mj_k25 : List (List mj_Ins) := [[j0 (.aload 0), j3 (.getfield 0) 0 1 1, j0 (.iload 1), j3 (.invokestatic 16) 2 1 2, j1 (.ifCond .eq 0) 10, j0 (.iload 2), j0 (.iconst 0), j0 (.iconst 7), j3 (.invokestatic 13) 3 1 0, j1 (.ifCond .ne 0) 12, j0 (.iconst (-1000000001)), j1 .ireturn 0, j0 (.aload 0), j3 (.getfield 0) 0 1 1, j3 (.getfield 0) 1 1 1, j0 (.iload 1)],
  [j0 .aaload, j0 (.iload 2), j0 (.iload 3), j3 (.invokestatic 26) 3 1 4, j3 (.invokestatic 18) 1 1 0, j1 .ireturn 0]]
/-- 26 WhoSigns$Person.setPaper(IZ)Z -/
def mj_k26 : List (List mj_Ins) := [[j0 (.aload 0), j3 (.getfield 3) 3 0 0, j0 (.istore 3), j0 (.aload 0), j0 (.iload 2), j1 (.ifCond .eq 0) 13, j0 (.aload 0), j3 (.getfield 3) 3 0 0, j0 (.iconst 1), j0 (.iload 1), j0 .ishl, j0 .ior, j1 (.goto 0) 21, j0 (.aload 0), j3 (.getfield 3) 3 0 0, j0 (.iconst 1)],
  [j0 (.iload 1), j0 .ishl, j0 (.iconst (-1)), j0 .ixor, j0 .iand, j3 (.putfield 3) 3 0 0, j0 (.aload 0), j3 (.getfield 3) 3 0 0, j0 (.iload 3), j1 (.if_icmp .eq 0) 28, j0 (.iconst 1), j1 (.goto 0) 29, j0 (.iconst 0), j1 .ireturn 1]]
/-- 27 WhoSigns.away(III)I -/
def mj_k27 : List (List mj_Ins) := [[j0 (.aload 0), j3 (.getfield 0) 0 1 1, j0 (.iload 1), j3 (.invokestatic 16) 2 1 2, j1 (.ifCond .eq 0) 11, j0 (.iload 2), j3 (.invokestatic 28) 1 1 0, j1 (.ifCond .eq 0) 11, j0 (.iload 3), j3 (.invokestatic 28) 1 1 0, j1 (.ifCond .ne 0) 13, j0 (.iconst (-1000000001)), j1 .ireturn 0, j0 (.aload 0), j3 (.getfield 0) 0 1 1, j3 (.getfield 0) 1 1 1],
  [j0 (.iload 1), j0 .aaload, j0 (.astore 4), j0 (.aload 4), j0 (.iload 2), j3 (.putfield 4) 3 0 0, j0 (.aload 4), j0 (.iload 3), j3 (.putfield 5) 3 0 0, j0 (.aload 4), j0 (.aload 0), j3 (.getfield 0) 0 1 1, j3 (.getfield 13) 1 0 0, j3 (.invokestatic 17) 2 1 4, j3 (.invokestatic 18) 1 1 0, j1 .ireturn 0]]
/-- 28 WhoSigns.isDay(I)Z -/
def mj_k28 : List (List mj_Ins) := [[j0 (.iload 0), j0 (.iconst 0), j0 (.iconst 999), j3 (.invokestatic 13) 3 1 0, j1 .ireturn 1]]
/-- 29 WhoSigns.stand(III)I -/
def mj_k29 : List (List mj_Ins) := [[j0 (.aload 0), j3 (.getfield 0) 0 1 1, j0 (.iload 1), j3 (.invokestatic 16) 2 1 2, j1 (.ifCond .ne 0) 7, j0 (.iconst (-1000000001)), j1 .ireturn 0, j0 (.iload 2), j0 (.iconst (-1)), j1 (.if_icmp .eq 0) 23, j0 (.aload 0), j3 (.getfield 0) 0 1 1, j0 (.iload 2), j3 (.invokestatic 16) 2 1 2, j1 (.ifCond .eq 0) 21, j0 (.iload 2)],
  [j0 (.iload 1), j1 (.if_icmp .eq 0) 21, j0 (.iload 3), j3 (.invokestatic 28) 1 1 0, j1 (.ifCond .ne 0) 23, j0 (.iconst (-1000000001)), j1 .ireturn 0, j0 (.aload 0), j3 (.getfield 0) 0 1 1, j3 (.getfield 0) 1 1 1, j0 (.iload 1), j0 .aaload, j0 (.astore 4), j0 (.aload 4), j3 (.getfield 6) 3 0 0, j1 (.ifCond .ge 0) 34],
  [j0 (.iconst (-1000000005)), j1 (.goto 0) 36, j0 (.aload 4), j3 (.getfield 6) 3 0 0, j0 (.istore 5), j0 (.aload 4), j0 (.iload 2), j3 (.putfield 6) 3 0 0, j0 (.aload 4), j0 (.iload 3), j3 (.putfield 7) 3 0 0, j0 (.iload 5), j1 .ireturn 0]]
/-- 30 WhoSigns.step(III)I -/
def mj_k30 : List (List mj_Ins) := [[j0 (.iload 1), j0 (.iconst (-1)), j0 (.iconst 7), j3 (.invokestatic 13) 3 1 0, j1 (.ifCond .eq 0) 15, j0 (.iload 2), j0 (.iconst 0), j0 (.iconst 9), j3 (.invokestatic 13) 3 1 0, j1 (.ifCond .eq 0) 15, j0 (.iload 3), j0 (.iconst 1), j0 (.iconst 60), j3 (.invokestatic 13) 3 1 0, j1 (.ifCond .ne 0) 17, j0 (.iconst (-1000000001))],
  [j1 .ireturn 0, j0 (.aload 0), j3 (.getfield 0) 0 1 1, j3 (.getfield 3) 1 0 0, j0 (.iconst 6), j1 (.if_icmp .lt 0) 24, j0 (.iconst (-1000000003)), j1 .ireturn 0, j0 (.aload 0), j3 (.getfield 0) 0 1 1, j3 (.getfield 2) 1 1 1, j0 (.aload 0), j3 (.getfield 0) 0 1 1, j3 (.getfield 3) 1 0 0, j0 .aaload, j0 (.iload 1)],
  [j0 (.iload 2), j0 (.iload 3), j3 (.invokestatic 31) 4 0 5, j0 (.aload 0), j3 (.getfield 0) 0 1 1, j0 .dup, j3 (.getfield 3) 1 0 0, j0 (.iconst 1), j0 .iadd, j3 (.putfield 3) 1 0 0, j0 (.aload 0), j3 (.getfield 0) 0 1 1, j3 (.getfield 3) 1 0 0, j0 (.iconst 1), j0 .isub, j1 .ireturn 0]]
/-- 31 WhoSigns$Step.begin(III)V -/
def mj_k31 : List (List mj_Ins) := [[j0 (.aload 0), j0 (.iload 1), j3 (.putfield 0) 4 0 0, j0 (.aload 0), j0 (.iload 2), j3 (.putfield 1) 4 0 0, j0 (.aload 0), j0 (.iload 3), j3 (.putfield 2) 4 0 0, j0 (.aload 0), j0 (.iconst (-1)), j3 (.putfield 3) 4 0 0, j0 .return_]]
/-- 32 WhoSigns.stepTold(II)I -/
def mj_k32 : List (List mj_Ins) := [[j0 (.aload 0), j3 (.getfield 0) 0 1 1, j0 (.iload 1), j3 (.invokestatic 33) 2 1 2, j1 (.ifCond .ne 0) 7, j0 (.iconst (-1000000001)), j1 .ireturn 0, j0 (.aload 0), j3 (.getfield 0) 0 1 1, j3 (.getfield 2) 1 1 1, j0 (.iload 1), j0 .aaload, j0 (.astore 3), j0 (.iload 2), (.lookupswitch 0 #[], 46, 0, 0, [(0, 15), (1, 23), (2, 26), (3, 29), (4, 37)]), j0 (.aload 3)],
  [j3 (.getfield 0) 4 0 0, j1 (.ifCond .ge 0) 20, j0 (.iconst (-1000000005)), j1 (.goto 0) 22, j0 (.aload 3), j3 (.getfield 0) 4 0 0, j1 .ireturn 0, j0 (.aload 3), j3 (.getfield 1) 4 0 0, j1 .ireturn 0, j0 (.aload 3), j3 (.getfield 2) 4 0 0, j1 .ireturn 0, j0 (.aload 3), j3 (.getfield 3) 4 0 0, j1 (.ifCond .ge 0) 34],
  [j0 (.iconst (-1000000005)), j1 (.goto 0) 36, j0 (.aload 3), j3 (.getfield 3) 4 0 0, j1 .ireturn 0, j0 (.aload 0), j3 (.getfield 0) 0 1 1, j0 (.iload 1), j0 (.aload 0), j3 (.getfield 0) 0 1 1, j3 (.getfield 13) 1 0 0, j3 (.invokestatic 34) 3 1 2, j3 (.invokestatic 38) 1 1 0, j1 .ireturn 0, j0 (.iconst (-1000000001)), j1 .ireturn 0]]
/-- 33 WhoSigns$Book.hasStep(I)Z -/
def mj_k33 : List (List mj_Ins) := [[j0 (.iload 1), j0 (.iconst 0), j0 (.aload 0), j3 (.getfield 3) 1 0 0, j0 (.iconst 1), j0 .isub, j3 (.invokestatic 13) 3 1 0, j1 .ireturn 1]]
/-- 34 WhoSigns$Book.whoMay(II)I -/
def mj_k34 : List (List mj_Ins) := [[j0 (.iconst 0), j0 (.istore 3), j0 (.iconst 0), j0 (.istore 4), j0 (.iload 4), j0 (.aload 0), j3 (.getfield 1) 1 0 0, j1 (.if_icmp .ge 0) 22, j0 (.aload 0), j0 (.iload 4), j0 (.iload 1), j0 (.iload 2), j3 (.invokestatic 35) 4 1 2, j1 (.ifCond .eq 0) 20, j0 (.iload 3), j0 (.iconst 1)],
  [j0 (.iload 4), j0 .ishl, j0 .ior, j0 (.istore 3), j0 (.iinc 4 1), j1 (.goto 0) 4, j0 (.iload 3), j1 .ireturn 0]]
/-- 35 WhoSigns$Book.mayDo(III)Z -/
def mj_k35 : List (List mj_Ins) := [[j0 (.aload 0), j3 (.getfield 0) 1 1 1, j0 (.iload 1), j0 .aaload, j0 (.astore 4), j0 (.aload 0), j3 (.getfield 2) 1 1 1, j0 (.iload 2), j0 .aaload, j0 (.astore 5), j0 (.aload 4), j0 (.iload 3), j3 (.invokestatic 17) 2 1 4, j1 (.ifCond .ne 0) 19, j0 (.aload 4), j3 (.getfield 1) 3 0 0],
  [j0 (.aload 5), j3 (.getfield 1) 4 0 0, j1 (.if_icmp .ge 0) 21, j0 (.iconst 0), j1 .ireturn 1, j0 (.aload 5), j3 (.getfield 0) 4 0 0, j1 (.ifCond .lt 0) 33, j0 (.aload 0), j0 (.aload 4), j0 (.aload 5), j3 (.getfield 0) 4 0 0, j0 (.iload 3), j3 (.invokestatic 36) 4 1 2, j1 (.ifCond .ne 0) 33, j0 (.iconst 0)],
  [j1 .ireturn 1, j0 (.aload 0), j0 (.aload 0), j3 (.getfield 8) 1 1 1, j0 (.iconst 0), j0 .iaload, j3 (.invokestatic 20) 2 1 2, j0 (.astore 6), j0 (.aload 6), j1 (.ifnull 0) 53, j0 (.aload 6), j0 (.aload 0), j0 (.aload 4), j0 (.iload 2), j0 (.iload 3), j0 (.iconst 0)],
  [j3 (.invokestatic 21) 5 1 2, j0 (.aload 0), j3 (.getfield 16) 1 1 1, j3 (.invokestatic 22) 3 1 12, j1 (.ifCond .eq 0) 55, j0 (.iconst 1), j1 (.goto 0) 56, j0 (.iconst 0), j1 .ireturn 1]]
/-- 36 WhoSigns$Book.hasPaper(LWhoSigns$Person;II)Z -/
def mj_k36 : List (List mj_Ins) := [[j0 (.aload 1), j0 (.iload 2), j3 (.invokestatic 37) 2 1 4, j1 (.ifCond .eq 0) 6, j0 (.iconst 1), j1 .ireturn 1, j0 (.aload 1), j3 (.getfield 6) 3 0 0, j1 (.ifCond .lt 0) 18, j0 (.aload 1), j3 (.getfield 6) 3 0 0, j0 (.aload 0), j3 (.getfield 1) 1 0 0, j1 (.if_icmp .ge 0) 18, j0 (.aload 1), j3 (.getfield 7) 3 0 0],
  [j0 (.iload 3), j1 (.if_icmp .ge 0) 20, j0 (.iconst 0), j1 .ireturn 1, j0 (.aload 0), j3 (.getfield 0) 1 1 1, j0 (.aload 1), j3 (.getfield 6) 3 0 0, j0 .aaload, j0 (.astore 4), j0 (.aload 4), j0 (.iload 3), j3 (.invokestatic 17) 2 1 4, j1 (.ifCond .eq 0) 36, j0 (.aload 4), j0 (.iload 2)],
  [j3 (.invokestatic 37) 2 1 4, j1 (.ifCond .eq 0) 36, j0 (.iconst 1), j1 (.goto 0) 37, j0 (.iconst 0), j1 .ireturn 1]]
/-- 37 WhoSigns$Person.owns(I)Z -/
def mj_k37 : List (List mj_Ins) := [[j0 (.aload 0), j3 (.getfield 3) 3 0 0, j0 (.iload 1), j0 .ishr, j0 (.iconst 1), j0 .iand, j1 (.ifCond .eq 0) 9, j0 (.iconst 1), j1 (.goto 0) 10, j0 (.iconst 0), j1 .ireturn 1]]
/-- 38 java/lang/Integer.bitCount(I)I -/
def mj_k38 : List (List mj_Ins) := [[j0 (.iload 0), j0 (.iload 0), j0 (.iconst 1), j0 .iushr, j0 (.iconst 1431655765), j0 .iand, j0 .isub, j0 (.istore 0), j0 (.iload 0), j0 (.iconst 858993459), j0 .iand, j0 (.iload 0), j0 (.iconst 2), j0 .iushr, j0 (.iconst 858993459), j0 .iand],
  [j0 .iadd, j0 (.istore 0), j0 (.iload 0), j0 (.iload 0), j0 (.iconst 4), j0 .iushr, j0 .iadd, j0 (.iconst 252645135), j0 .iand, j0 (.istore 0), j0 (.iload 0), j0 (.iload 0), j0 (.iconst 8), j0 .iushr, j0 .iadd, j0 (.istore 0)],
  [j0 (.iload 0), j0 (.iload 0), j0 (.iconst 16), j0 .iushr, j0 .iadd, j0 (.istore 0), j0 (.iload 0), j0 (.iconst 63), j0 .iand, j1 .ireturn 0]]
/-- 39 WhoSigns.days(I)I -/
def mj_k39 : List (List mj_Ins) := [[j0 (.iload 1), j0 (.iconst 1), j0 (.iconst 99), j3 (.invokestatic 13) 3 1 0, j1 (.ifCond .ne 0) 7, j0 (.iconst (-1000000001)), j1 .ireturn 0, j0 (.aload 0), j3 (.getfield 0) 0 1 1, j3 (.getfield 13) 1 0 0, j0 (.iload 1), j0 .iadd, j0 (.iconst 999), j1 (.if_icmp .le 0) 16, j0 (.iconst (-1000000003)), j1 .ireturn 0],
  [j0 (.aload 0), j3 (.getfield 0) 0 1 1, j0 .dup, j3 (.getfield 13) 1 0 0, j0 (.iload 1), j0 .iadd, j3 (.putfield 13) 1 0 0, j0 (.aload 0), j3 (.getfield 0) 0 1 1, j3 (.getfield 13) 1 0 0, j1 .ireturn 0]]
/-- 40 WhoSigns.may(III)I -/
def mj_k40 : List (List mj_Ins) := [[j0 (.aload 0), j3 (.getfield 0) 0 1 1, j0 (.iload 1), j3 (.invokestatic 16) 2 1 2, j1 (.ifCond .eq 0) 13, j0 (.aload 0), j3 (.getfield 0) 0 1 1, j0 (.iload 2), j3 (.invokestatic 33) 2 1 2, j1 (.ifCond .eq 0) 13, j0 (.iload 3), j3 (.invokestatic 28) 1 1 0, j1 (.ifCond .ne 0) 15, j0 (.iconst (-1000000001)), j1 .ireturn 0, j0 (.aload 0)],
  [j3 (.getfield 0) 0 1 1, j0 (.iload 1), j0 (.iload 2), j0 (.iload 3), j3 (.invokestatic 35) 4 1 2, j3 (.invokestatic 18) 1 1 0, j1 .ireturn 0]]
/-- 41 WhoSigns.cost(II)I -/
def mj_k41 : List (List mj_Ins) := [[j0 (.aload 0), j3 (.getfield 0) 0 1 1, j0 (.iload 1), j3 (.invokestatic 16) 2 1 2, j1 (.ifCond .eq 0) 10, j0 (.aload 0), j3 (.getfield 0) 0 1 1, j0 (.iload 2), j3 (.invokestatic 33) 2 1 2, j1 (.ifCond .ne 0) 12, j0 (.iconst (-1000000001)), j1 .ireturn 0, j0 (.aload 0), j3 (.getfield 0) 0 1 1, j0 (.iload 1), j0 (.iload 2)],
  [j3 (.invokestatic 42) 3 1 2, j1 .ireturn 0]]
/-- 42 WhoSigns$Book.costOf(II)I -/
def mj_k42 : List (List mj_Ins) := [[j0 (.aload 0), j3 (.getfield 0) 1 1 1, j0 (.iload 1), j0 .aaload, j0 (.astore 3), j0 (.aload 0), j3 (.getfield 2) 1 1 1, j0 (.iload 2), j0 .aaload, j3 (.getfield 2) 4 0 0, j0 (.istore 4), j0 (.aload 0), j0 (.aload 0), j3 (.getfield 8) 1 1 1, j0 (.iconst 1), j0 .iaload],
  [j3 (.invokestatic 20) 2 1 2, j0 (.astore 5), j0 (.aload 5), j1 (.ifnonnull 0) 27, j0 (.iload 4), j0 (.aload 3), j3 (.getfield 1) 3 0 0, j0 (.iconst 1), j0 .iadd, j0 .imul, j1 .ireturn 0, j0 (.iconst 0), j0 (.iconst 9999), j0 (.aload 5), j0 (.aload 0), j0 (.aload 3)],
  [j0 (.iload 2), j0 (.aload 0), j3 (.getfield 13) 1 0 0, j0 (.iload 4), j3 (.invokestatic 21) 5 1 2, j0 (.aload 0), j3 (.getfield 16) 1 1 1, j3 (.invokestatic 22) 3 1 12, j0 .dmul, j0 .ddiv, j1 .ireturn 0]]
/-- 43 java/lang/Math.min(II)I -/
def mj_k43 : List (List mj_Ins) := [[j0 (.iload 0), j0 (.iload 1), j1 (.if_icmp .gt 0) 5, j0 (.iload 0), j1 (.goto 0) 6, j0 (.iload 1), j1 .ireturn 0]]
/-- 44 java/lang/Math.max(II)I -/
def mj_k44 : List (List mj_Ins) := [[j0 (.iload 0), j0 (.iload 1), j1 (.if_icmp .lt 0) 5, j0 (.iload 0), j1 (.goto 0) 6, j0 (.iload 1), j1 .ireturn 0]]
/-- 45 WhoSigns.rule(III)I -/
def mj_k45 : List (List mj_Ins) := [[j0 (.iload 1), j3 (.invokestatic 46) 1 1 0, j1 (.ifCond .eq 0) 10, j0 (.iload 2), j1 (.ifCond .lt 0) 10, j0 (.iload 3), j0 (.iconst 0), j0 (.iconst 9), j3 (.invokestatic 13) 3 1 0, j1 (.ifCond .ne 0) 12, j0 (.iconst (-1000000001)), j1 .ireturn 0, j0 (.iload 2), j0 (.iconst 10), j0 .idiv, j0 (.istore 4)],
  [j0 (.iload 2), j0 (.iconst 10), j0 .irem, j0 (.istore 5), j0 (.aload 0), j3 (.getfield 0) 0 1 1, j0 (.iload 4), j3 (.invokestatic 33) 2 1 2, j1 (.ifCond .eq 0) 33, j0 (.aload 0), j3 (.getfield 0) 0 1 1, j0 (.iload 5), j3 (.invokestatic 33) 2 1 2, j1 (.ifCond .eq 0) 33, j0 (.iload 4), j0 (.iload 5)],
  [j1 (.if_icmp .ne 0) 35, j0 (.iconst (-1000000001)), j1 .ireturn 0, j0 (.aload 0), j3 (.getfield 0) 0 1 1, j3 (.getfield 5) 1 0 0, j0 (.iconst 12), j1 (.if_icmp .lt 0) 42, j0 (.iconst (-1000000003)), j1 .ireturn 0, j0 (.aload 0), j3 (.getfield 0) 0 1 1, j3 (.getfield 4) 1 1 1, j0 (.aload 0), j3 (.getfield 0) 0 1 1, j3 (.getfield 5) 1 0 0],
  [j0 .aaload, j0 (.iload 1), j0 (.iload 4), j0 (.iload 5), j0 (.iload 3), j3 (.invokestatic 47) 5 0 6, j0 (.aload 0), j3 (.getfield 0) 0 1 1, j0 .dup, j3 (.getfield 5) 1 0 0, j0 (.iconst 1), j0 .iadd, j3 (.putfield 5) 1 0 0, j0 (.aload 0), j3 (.getfield 0) 0 1 1, j3 (.getfield 5) 1 0 0],
  [j0 (.iconst 1), j0 .isub, j1 .ireturn 0]]
/-- 46 WhoSigns.isKind(I)Z -/
def mj_k46 : List (List mj_Ins) := [[j0 (.iload 0), j0 (.iconst 0), j0 (.iconst 5), j3 (.invokestatic 13) 3 1 0, j1 .ireturn 1]]
/-- 47 WhoSigns$Rule.begin(IIII)V -/
def mj_k47 : List (List mj_Ins) := [[j0 (.aload 0), j0 (.iload 1), j3 (.putfield 0) 5 0 0, j0 (.aload 0), j0 (.iload 2), j3 (.putfield 1) 5 0 0, j0 (.aload 0), j0 (.iload 3), j3 (.putfield 2) 5 0 0, j0 (.aload 0), j0 (.iload 4), j3 (.putfield 3) 5 0 0, j0 .return_]]
/-- 48 WhoSigns.told(II)I -/
def mj_k48 : List (List mj_Ins) := [[j0 (.aload 0), j3 (.getfield 0) 0 1 1, j0 (.iload 1), j3 (.invokestatic 49) 2 1 2, j1 (.ifCond .ne 0) 7, j0 (.iconst (-1000000001)), j1 .ireturn 0, j0 (.aload 0), j3 (.getfield 0) 0 1 1, j3 (.getfield 4) 1 1 1, j0 (.iload 1), j0 .aaload, j0 (.astore 3), j0 (.iload 2), (.lookupswitch 0 #[], 43, 0, 0, [(0, 15), (1, 18), (2, 21), (3, 24), (4, 27), (5, 33)]), j0 (.aload 3)],
  [j3 (.getfield 0) 5 0 0, j1 .ireturn 0, j0 (.aload 3), j3 (.getfield 1) 5 0 0, j1 .ireturn 0, j0 (.aload 3), j3 (.getfield 2) 5 0 0, j1 .ireturn 0, j0 (.aload 3), j3 (.getfield 3) 5 0 0, j1 .ireturn 0, j0 (.aload 3), j3 (.getfield 0) 5 0 0, j0 (.aload 3), j3 (.getfield 3) 5 0 0, j3 (.invokestatic 50) 2 1 0],
  [j1 .ireturn 0, j0 (.aload 3), j0 (.aload 0), j3 (.getfield 0) 0 1 1, j3 (.getfield 0) 1 1 1, j0 (.aload 0), j3 (.getfield 0) 0 1 1, j3 (.invokestatic 51) 1 1 2, j3 (.invokestatic 54) 3 1 6, j3 (.invokestatic 18) 1 1 0, j1 .ireturn 0, j0 (.iconst (-1000000001)), j1 .ireturn 0]]
/-- 49 WhoSigns$Book.hasRule(I)Z -/
def mj_k49 : List (List mj_Ins) := [[j0 (.iload 1), j0 (.iconst 0), j0 (.aload 0), j3 (.getfield 5) 1 0 0, j0 (.iconst 1), j0 .isub, j3 (.invokestatic 13) 3 1 0, j1 .ireturn 1]]
/-- 50 WhoSigns.weightOf(II)I -/
def mj_k50 : List (List mj_Ins) := [[j0 (.iload 0), (.lookupswitch 0 #[], 24, 0, 0, [(1, 2), (2, 18), (3, 6), (4, 12), (5, 20)]), j0 (.iconst 1), j0 (.iload 1), j0 .iadd, j1 .ireturn 0, j0 (.iconst 2), j0 (.iconst 1), j0 (.iload 1), j0 .iadd, j0 .imul, j1 .ireturn 0, j0 (.iconst 1), j0 (.iload 1), j0 .iadd, j0 (.iconst 3)],
  [j0 .iadd, j1 .ireturn 0, j0 (.iconst 4), j1 .ireturn 0, j0 (.iload 1), j0 (.iload 1), j0 .imul, j1 .ireturn 0, j0 (.iconst 1), j1 .ireturn 0]]
/-- 51 WhoSigns$Book.signers()[I -/
def mj_k51 : List (List mj_Ins) := [[j0 (.aload 0), j3 (.invokestatic 52) 1 1 2, j0 (.astore 1), j0 (.iconst 0), j0 (.istore 2), j0 (.iload 2), j0 (.aload 0), j3 (.getfield 3) 1 0 0, j1 (.if_icmp .ge 0) 19, j0 (.aload 1), j0 (.iload 2), j0 (.aload 0), j3 (.getfield 2) 1 1 1, j0 (.iload 2), j0 .aaload, j3 (.getfield 3) 4 0 0],
  [j0 .iastore, j0 (.iinc 2 1), j1 (.goto 0) 5, j0 (.aload 1), j1 .ireturn 4]]
/-- 52 WhoSigns$Book.nobody()[I -/
def mj_k52 : List (List mj_Ins) := [[j0 (.aload 0), j3 (.getfield 17) 1 1 1, j0 (.iconst (-1)), j3 (.invokestatic 53) 2 0 0, j0 (.aload 0), j3 (.getfield 17) 1 1 1, j1 .ireturn 4]]
/-- 53 java/util/Arrays.fill([II)V -/
def mj_k53 : List (List mj_Ins) := [[j0 (.iconst 0), j0 (.istore 2), j0 (.aload 0), j0 .arraylength, j0 (.istore 3), j0 (.iload 2), j0 (.iload 3), j1 (.if_icmp .ge 0) 14, j0 (.aload 0), j0 (.iload 2), j0 (.iload 1), j0 .iastore, j0 (.iinc 2 1), j1 (.goto 0) 5, j0 .return_]]
/-- 54 WhoSigns$Rule.isKept([LWhoSigns$Person;[I)Z -/
def mj_k54 : List (List mj_Ins) := [[j0 (.aload 0), j3 (.getfield 0) 5 0 0, j0 (.iconst 5), j1 (.if_icmp .ne 0) 8, j0 (.aload 0), j0 (.aload 2), j3 (.invokestatic 55) 2 1 6, j1 .ireturn 1, j0 (.aload 2), j0 (.aload 0), j3 (.getfield 1) 5 0 0, j0 .iaload, j1 (.ifCond .lt 0) 30, j0 (.aload 2), j0 (.aload 0), j3 (.getfield 2) 5 0 0],
  [j0 .iaload, j1 (.ifCond .lt 0) 30, j0 (.aload 0), j0 (.aload 1), j0 (.aload 2), j0 (.aload 0), j3 (.getfield 1) 5 0 0, j0 .iaload, j0 (.aload 2), j0 (.aload 0), j3 (.getfield 2) 5 0 0, j0 .iaload, j3 (.invokestatic 58) 4 1 6, j1 (.ifCond .eq 0) 32, j0 (.iconst 1), j1 (.goto 0) 33],
  [j0 (.iconst 0), j1 .ireturn 1]]
/-- 55 WhoSigns$Rule.isManyKept([I)Z -/
def mj_k55 : List (List mj_Ins) := [[j0 (.iconst 0), j0 (.istore 2), j0 (.aload 0), j3 (.invokestatic 56) 1 1 6, j0 (.istore 3), j0 (.aload 0), j3 (.invokestatic 57) 1 1 6, j0 (.istore 4), j0 (.iload 4), j0 (.iload 3), j1 (.if_icmp .gt 0) 27, j0 (.aload 1), j0 (.iload 4), j0 .iaload, j1 (.ifCond .ge 0) 17, j0 (.iconst 1)],
  [j1 .ireturn 1, j0 (.iload 2), j0 (.iconst 1), j0 (.aload 1), j0 (.iload 4), j0 .iaload, j0 .ishl, j0 .ior, j0 (.istore 2), j0 (.iinc 4 1), j1 (.goto 0) 8, j0 (.iload 2), j3 (.invokestatic 38) 1 1 0, j0 (.aload 0), j3 (.getfield 3) 5 0 0, j1 (.if_icmp .lt 0) 34],
  [j0 (.iconst 1), j1 (.goto 0) 35, j0 (.iconst 0), j1 .ireturn 1]]
/-- 56 WhoSigns$Rule.lastStep()I -/
def mj_k56 : List (List mj_Ins) := [[j0 (.aload 0), j3 (.getfield 1) 5 0 0, j0 (.aload 0), j3 (.getfield 2) 5 0 0, j1 (.if_icmp .ge 0) 8, j0 (.aload 0), j3 (.getfield 2) 5 0 0, j1 (.goto 0) 10, j0 (.aload 0), j3 (.getfield 1) 5 0 0, j1 .ireturn 0]]
/-- 57 WhoSigns$Rule.firstStep()I -/
def mj_k57 : List (List mj_Ins) := [[j0 (.aload 0), j3 (.getfield 1) 5 0 0, j0 (.aload 0), j3 (.getfield 2) 5 0 0, j1 (.if_icmp .ge 0) 8, j0 (.aload 0), j3 (.getfield 1) 5 0 0, j1 (.goto 0) 10, j0 (.aload 0), j3 (.getfield 2) 5 0 0, j1 .ireturn 0]]
/-- 58 WhoSigns$Rule.suits([LWhoSigns$Person;II)Z -/
def mj_k58 : List (List mj_Ins) := [[j0 (.aload 1), j0 (.iload 2), j0 .aaload, j0 (.astore 4), j0 (.aload 1), j0 (.iload 3), j0 .aaload, j0 (.astore 5), j0 (.aload 0), j3 (.getfield 0) 5 0 0, (.lookupswitch 0 #[], 55, 0, 0, [(1, 11), (2, 48), (3, 18), (4, 33)]), j0 (.iload 2), j0 (.iload 3), j1 (.if_icmp .eq 0) 16, j0 (.iconst 1), j1 (.goto 0) 17],
  [j0 (.iconst 0), j1 .ireturn 1, j0 (.iload 2), j0 (.iload 3), j1 (.if_icmp .eq 0) 31, j0 (.aload 4), j3 (.getfield 2) 3 0 0, j0 (.aload 5), j3 (.getfield 2) 3 0 0, j1 (.if_icmp .ne 0) 29, j0 (.aload 4), j3 (.getfield 2) 3 0 0, j1 (.ifCond .ne 0) 31, j0 (.iconst 1), j1 (.goto 0) 32, j0 (.iconst 0)],
  [j1 .ireturn 1, j0 (.iload 2), j0 (.iload 3), j1 (.if_icmp .eq 0) 46, j0 (.aload 5), j3 (.getfield 1) 3 0 0, j0 (.aload 4), j3 (.getfield 1) 3 0 0, j0 (.aload 0), j3 (.getfield 3) 5 0 0, j0 .iadd, j1 (.if_icmp .lt 0) 46, j0 (.iconst 1), j1 (.goto 0) 47, j0 (.iconst 0), j1 .ireturn 1],
  [j0 (.iload 2), j0 (.iload 3), j1 (.if_icmp .ne 0) 53, j0 (.iconst 1), j1 (.goto 0) 54, j0 (.iconst 0), j1 .ireturn 1, j0 (.iconst 1), j1 .ireturn 1]]
/-- 59 WhoSigns.as(II)I -/
def mj_k59 : List (List mj_Ins) := [[j0 (.aload 0), j3 (.getfield 0) 0 1 1, j0 (.iload 1), j3 (.invokestatic 49) 2 1 2, j1 (.ifCond .eq 0) 8, j0 (.iload 2), j3 (.invokestatic 46) 1 1 0, j1 (.ifCond .ne 0) 10, j0 (.iconst (-1000000001)), j1 .ireturn 0, j0 (.aload 0), j3 (.getfield 0) 0 1 1, j3 (.getfield 4) 1 1 1, j0 (.iload 1), j0 .aaload, j0 (.astore 3)],
  [j0 (.aload 3), j3 (.getfield 0) 5 0 0, j0 (.iload 2), j3 (.invokestatic 60) 2 1 0, j1 (.ifCond .eq 0) 24, j0 (.aload 3), j3 (.getfield 3) 5 0 0, j1 (.goto 0) 25, j0 (.iconst (-1000000012)), j1 .ireturn 0]]
/-- 60 WhoSigns.isUnder(II)Z -/
def mj_k60 : List (List mj_Ins) := [[j0 (.iload 0), j0 (.istore 2), j0 (.iconst 0), j0 (.istore 3), j0 (.iload 3), j0 (.iconst 6), j1 (.if_icmp .ge 0) 21, j0 (.iload 2), j3 (.invokestatic 46) 1 1 0, j1 (.ifCond .eq 0) 21, j0 (.iload 2), j0 (.iload 1), j1 (.if_icmp .ne 0) 15, j0 (.iconst 1), j1 .ireturn 1, j0 (.ldc 2)],
  [j0 (.iload 2), j0 .iaload, j0 (.istore 2), j0 (.iinc 3 1), j1 (.goto 0) 4, j0 (.iconst 0), j1 .ireturn 1]]
/-- 61 WhoSigns.turns(II)I -/
def mj_k61 : List (List mj_Ins) := [[j0 (.aload 0), j3 (.getfield 0) 0 1 1, j0 (.iload 1), j3 (.invokestatic 49) 2 1 2, j1 (.ifCond .eq 0) 8, j0 (.iload 2), j3 (.invokestatic 46) 1 1 0, j1 (.ifCond .ne 0) 10, j0 (.iconst (-1000000001)), j1 .ireturn 0, j0 (.aload 0), j3 (.getfield 0) 0 1 1, j3 (.getfield 4) 1 1 1, j0 (.iload 1), j0 .aaload, j0 (.astore 3)],
  [j0 (.aload 3), j3 (.getfield 0) 5 0 0, j0 (.istore 4), j0 (.aload 3), j0 (.iload 2), j3 (.putfield 0) 5 0 0, j0 (.iload 4), j1 .ireturn 0]]
/-- 62 WhoSigns.drop(I)I -/
def mj_k62 : List (List mj_Ins) := [[j0 (.aload 0), j3 (.getfield 0) 0 1 1, j0 (.iload 1), j3 (.invokestatic 49) 2 1 2, j1 (.ifCond .ne 0) 7, j0 (.iconst (-1000000001)), j1 .ireturn 0, j0 (.aload 0), j3 (.getfield 0) 0 1 1, j0 (.iload 1), j3 (.invokestatic 63) 2 0 2, j0 (.aload 0), j3 (.getfield 0) 0 1 1, j3 (.getfield 5) 1 0 0, j1 .ireturn 0]]
/-- 63 WhoSigns$Book.removeRule(I)V -/
def mj_k63 : List (List mj_Ins) := [[j0 (.iload 1), j0 (.istore 2), j0 (.iload 2), j0 (.aload 0), j3 (.getfield 5) 1 0 0, j0 (.iconst 1), j0 .isub, j1 (.if_icmp .ge 0) 21, j0 (.aload 0), j3 (.getfield 4) 1 1 1, j0 (.iload 2), j0 .aaload, j0 (.aload 0), j3 (.getfield 4) 1 1 1, j0 (.iload 2), j0 (.iconst 1)],
  [j0 .iadd, j0 .aaload, j3 (.invokestatic 64) 2 0 6, j0 (.iinc 2 1), j1 (.goto 0) 2, j0 (.aload 0), j0 .dup, j3 (.getfield 5) 1 0 0, j0 (.iconst 1), j0 .isub, j3 (.putfield 5) 1 0 0, j0 .return_]]
/-- 64 WhoSigns$Rule.takeFrom(LWhoSigns$Rule;)V -/
def mj_k64 : List (List mj_Ins) := [[j0 (.aload 0), j0 (.aload 1), j3 (.getfield 0) 5 0 0, j3 (.putfield 0) 5 0 0, j0 (.aload 0), j0 (.aload 1), j3 (.getfield 1) 5 0 0, j3 (.putfield 1) 5 0 0, j0 (.aload 0), j0 (.aload 1), j3 (.getfield 2) 5 0 0, j3 (.putfield 2) 5 0 0, j0 (.aload 0), j0 (.aload 1), j3 (.getfield 3) 5 0 0, j3 (.putfield 3) 5 0 0],
  [j0 .return_]]
/-- 65 WhoSigns.keeps(III)I -/
def mj_k65 : List (List mj_Ins) := [[j0 (.aload 0), j3 (.getfield 0) 0 1 1, j0 (.iload 1), j3 (.invokestatic 49) 2 1 2, j1 (.ifCond .eq 0) 15, j0 (.aload 0), j3 (.getfield 0) 0 1 1, j0 (.iload 2), j3 (.invokestatic 16) 2 1 2, j1 (.ifCond .eq 0) 15, j0 (.aload 0), j3 (.getfield 0) 0 1 1, j0 (.iload 3), j3 (.invokestatic 16) 2 1 2, j1 (.ifCond .ne 0) 17, j0 (.iconst (-1000000001))],
  [j1 .ireturn 0, j0 (.aload 0), j3 (.getfield 0) 0 1 1, j3 (.getfield 4) 1 1 1, j0 (.iload 1), j0 .aaload, j0 (.astore 4), j0 (.aload 0), j3 (.getfield 0) 0 1 1, j3 (.invokestatic 52) 1 1 2, j0 (.astore 5), j0 (.aload 5), j0 (.aload 4), j3 (.getfield 1) 5 0 0, j0 (.iload 2), j0 .iastore],
  [j0 (.aload 5), j0 (.aload 4), j3 (.getfield 2) 5 0 0, j0 (.iload 3), j0 .iastore, j0 (.aload 4), j0 (.aload 0), j3 (.getfield 0) 0 1 1, j3 (.getfield 0) 1 1 1, j0 (.aload 5), j3 (.invokestatic 54) 3 1 6, j3 (.invokestatic 18) 1 1 0, j1 .ireturn 0]]
/-- 66 WhoSigns.feed(III)I -/
def mj_k66 : List (List mj_Ins) := [[j0 (.aload 0), j3 (.getfield 5) 0 1 1, j3 (.getfield 1) 8 0 0, j0 (.iconst 12), j0 .iadd, j0 (.iconst 96), j1 (.if_icmp .le 0) 9, j0 (.iconst (-1000000003)), j1 .ireturn 0, j0 (.aload 0), j3 (.getfield 5) 0 1 1, j0 (.iload 1), j3 (.invokestatic 67) 2 0 9, j0 (.aload 0), j3 (.getfield 5) 0 1 1, j0 (.iload 2)],
  [j3 (.invokestatic 67) 2 0 9, j0 (.aload 0), j3 (.getfield 5) 0 1 1, j0 (.iload 3), j3 (.invokestatic 67) 2 0 9, j0 (.aload 0), j3 (.getfield 5) 0 1 1, j3 (.getfield 1) 8 0 0, j1 .ireturn 0]]
/-- 67 WhoSigns$Reader.append(I)V -/
def mj_k67 : List (List mj_Ins) := [[j0 (.iconst 24), j0 (.istore 2), j0 (.iload 2), j1 (.ifCond .lt 0) 26, j0 (.aload 0), j3 (.getfield 1) 8 0 0, j0 (.iconst 96), j1 (.if_icmp .ge 0) 24, j0 (.aload 0), j3 (.getfield 0) 8 1 1, j0 (.aload 0), j3 (.getfield 1) 8 0 0, j0 (.iload 1), j0 (.iload 2), j0 .iushr, j0 (.iconst 255)],
  [j0 .iand, j0 .iastore, j0 (.aload 0), j0 .dup, j3 (.getfield 1) 8 0 0, j0 (.iconst 1), j0 .iadd, j3 (.putfield 1) 8 0 0, j0 (.iinc 2 (-8)), j1 (.goto 0) 2, j0 .return_]]
/-- 68 WhoSigns.trim(I)I -/
def mj_k68 : List (List mj_Ins) := [[j0 (.iload 1), j0 (.iconst 0), j0 (.aload 0), j3 (.getfield 5) 0 1 1, j3 (.getfield 1) 8 0 0, j3 (.invokestatic 13) 3 1 0, j1 (.ifCond .ne 0) 9, j0 (.iconst (-1000000001)), j1 .ireturn 0, j0 (.aload 0), j3 (.getfield 5) 0 1 1, j0 (.iload 1), j3 (.putfield 1) 8 0 0, j0 (.iload 1), j1 .ireturn 0]]
/-- 69 WhoSigns.text()I -/
def mj_k69 : List (List mj_Ins) := [[j0 (.aload 0), j3 (.getfield 5) 0 1 1, j3 (.invokestatic 70) 1 1 9, j0 (.istore 1), j0 (.aload 0), j3 (.getfield 5) 0 1 1, j0 (.iconst 0), j3 (.putfield 1) 8 0 0, j0 (.iload 1), j1 (.ifCond .lt 0) 14, j0 (.iconst (-100)), j0 (.iload 1), j0 .isub, j1 .ireturn 0, j0 (.aload 0), j3 (.getfield 0) 0 1 1],
  [j3 (.getfield 7) 1 0 0, j0 (.iconst 14), j1 (.if_icmp .lt 0) 21, j0 (.iconst (-1000000003)), j1 .ireturn 0, j0 (.aload 0), j3 (.getfield 0) 0 1 1, j0 (.aload 0), j3 (.getfield 5) 0 1 1, j3 (.invokestatic 108) 1 1 9, j3 (.invokestatic 111) 2 0 2, j0 (.aload 0), j3 (.getfield 0) 0 1 1, j3 (.getfield 7) 1 0 0, j0 (.iconst 1), j0 .isub],
  [j1 .ireturn 0]]
/-- 70 WhoSigns$Reader.findFault()I -/
def mj_k70 : List (List mj_Ins) := [[j0 (.aload 0), j0 (.iconst 0), j3 (.putfield 2) 8 0 0, j0 (.aload 0), j0 (.iconst 0), j3 (.putfield 4) 8 0 0, j0 (.aload 0), j0 (.iconst 0), j3 (.putfield 6) 8 0 0, j0 (.aload 0), j0 (.iconst 0), j3 (.putfield 8) 8 0 0, j0 (.aload 0), j3 (.invokestatic 71) 1 0 9, j0 (.aload 0), j0 (.aload 0)],
  [j3 (.invokestatic 73) 1 1 9, j3 (.putfield 5) 8 0 0, j0 (.aload 0), j3 (.getfield 5) 8 0 0, j1 (.ifCond .ge 0) 24, j0 (.aload 0), j3 (.getfield 3) 8 0 0, j1 .ireturn 0, j0 (.aload 0), j3 (.invokestatic 71) 1 0 9, j0 (.aload 0), j0 (.iconst 0), j0 (.iconst 0), j0 (.iconst 0), j3 (.invokestatic 86) 4 1 9, j1 (.ifCond .eq 0) 37],
  [j0 (.aload 0), j3 (.getfield 2) 8 0 0, j1 (.ifCond .ne 0) 37, j0 (.iconst (-1)), j1 (.goto 0) 39, j0 (.aload 0), j3 (.getfield 3) 8 0 0, j1 .ireturn 0]]
/-- 71 WhoSigns$Reader.next()V -/
def mj_k71 : List (List mj_Ins) := [[j0 (.aload 0), j3 (.getfield 2) 8 0 0, j0 (.iconst 1), j1 (.if_icmp .eq 0) 8, j0 (.aload 0), j3 (.getfield 2) 8 0 0, j0 (.iconst 2), j1 (.if_icmp .ne 0) 10, j0 (.iconst 1), j1 (.goto 0) 11, j0 (.iconst 0), j0 (.istore 1), j0 (.aload 0), j3 (.getfield 4) 8 0 0, j0 (.istore 2), j0 (.aload 0)],
  [j0 (.aload 0), j3 (.getfield 4) 8 0 0, j3 (.putfield 3) 8 0 0, j0 (.aload 0), j3 (.getfield 3) 8 0 0, j0 (.aload 0), j3 (.getfield 1) 8 0 0, j1 (.if_icmp .ge 0) 38, j0 (.aload 0), j3 (.getfield 0) 8 1 1, j0 (.aload 0), j3 (.getfield 3) 8 0 0, j0 .iaload, j0 (.iconst 32), j1 (.if_icmp .ne 0) 38, j0 (.aload 0)],
  [j0 .dup, j3 (.getfield 3) 8 0 0, j0 (.iconst 1), j0 .iadd, j3 (.putfield 3) 8 0 0, j1 (.goto 0) 19, j0 (.aload 0), j0 (.aload 0), j3 (.getfield 3) 8 0 0, j3 (.putfield 4) 8 0 0, j0 (.aload 0), j3 (.getfield 3) 8 0 0, j0 (.aload 0), j3 (.getfield 1) 8 0 0, j1 (.if_icmp .lt 0) 51, j0 (.aload 0)],
  [j0 (.iconst 0), j3 (.putfield 2) 8 0 0, j0 .return_, j0 (.aload 0), j0 (.aload 0), j3 (.getfield 0) 8 1 1, j0 (.aload 0), j3 (.getfield 3) 8 0 0, j0 .iaload, j3 (.invokestatic 72) 1 1 0, j3 (.putfield 2) 8 0 0, j0 (.aload 0), j0 (.aload 0), j3 (.getfield 3) 8 0 0, j0 (.iconst 1), j0 .iadd],
  [j3 (.putfield 4) 8 0 0, j0 (.aload 0), j3 (.getfield 2) 8 0 0, j0 (.iconst 3), j1 (.if_icmp .ne 0) 70, j0 .return_, j0 (.aload 0), j3 (.getfield 4) 8 0 0, j0 (.aload 0), j3 (.getfield 1) 8 0 0, j1 (.if_icmp .ge 0) 91, j0 (.aload 0), j3 (.getfield 0) 8 1 1, j0 (.aload 0), j3 (.getfield 4) 8 0 0, j0 .iaload],
  [j3 (.invokestatic 72) 1 1 0, j0 (.aload 0), j3 (.getfield 2) 8 0 0, j1 (.if_icmp .ne 0) 91, j0 (.aload 0), j0 .dup, j3 (.getfield 4) 8 0 0, j0 (.iconst 1), j0 .iadd, j3 (.putfield 4) 8 0 0, j1 (.goto 0) 70, j0 (.iload 1), j1 (.ifCond .eq 0) 100, j0 (.aload 0), j3 (.getfield 3) 8 0 0, j0 (.iload 2)],
  [j1 (.if_icmp .ne 0) 100, j0 (.aload 0), j0 (.iconst 4), j3 (.putfield 2) 8 0 0, j0 .return_]]
/-- 72 WhoSigns$Reader.sortOf(I)I -/
def mj_k72 : List (List mj_Ins) := [[j0 (.iconst 97), j0 (.iload 0), j1 (.if_icmp .gt 0) 8, j0 (.iload 0), j0 (.iconst 122), j1 (.if_icmp .gt 0) 8, j0 (.iconst 1), j1 .ireturn 0, j0 (.iconst 48), j0 (.iload 0), j1 (.if_icmp .gt 0) 16, j0 (.iload 0), j0 (.iconst 57), j1 (.if_icmp .gt 0) 16, j0 (.iconst 2), j1 (.goto 0) 17],
  [j0 (.iconst 3), j1 .ireturn 0]]
/-- 73 WhoSigns$Reader.keyHere()I -/
def mj_k73 : List (List mj_Ins) := [[j0 (.aload 0), j0 (.ldc 3), j3 (.invokestatic 74) 2 1 9, j1 (.ifCond .eq 0) 6, j0 (.iconst 0), j1 .ireturn 0, j0 (.aload 0), j0 (.ldc 4), j3 (.invokestatic 74) 2 1 9, j1 (.ifCond .eq 0) 12, j0 (.iconst 1), j1 .ireturn 0, j0 (.aload 0), j0 (.ldc 5), j3 (.invokestatic 74) 2 1 9, j1 (.ifCond .eq 0) 18],
  [j0 (.iconst 2), j1 (.goto 0) 19, j0 (.iconst (-1)), j1 .ireturn 0]]
/-- 74 WhoSigns$Reader.spells(Ljava/lang/String;)Z -/
def mj_k74 : List (List mj_Ins) := [[j0 (.aload 0), j3 (.getfield 2) 8 0 0, j0 (.iconst 1), j1 (.if_icmp .ne 0) 12, j0 (.aload 0), j3 (.getfield 4) 8 0 0, j0 (.aload 0), j3 (.getfield 3) 8 0 0, j0 .isub, j0 (.aload 1), j3 (.invokestatic 75) 1 1 42, j1 (.if_icmp .eq 0) 14, j0 (.iconst 0), j1 .ireturn 1, j0 (.aload 0), j3 (.getfield 3) 8 0 0],
  [j0 (.istore 2), j0 (.iload 2), j0 (.aload 0), j3 (.getfield 4) 8 0 0, j1 (.if_icmp .ge 0) 36, j0 (.aload 0), j3 (.getfield 0) 8 1 1, j0 (.iload 2), j0 .iaload, j0 (.aload 1), j0 (.iload 2), j0 (.aload 0), j3 (.getfield 3) 8 0 0, j0 .isub, j3 (.invokestatic 77) 2 1 42, j1 (.if_icmp .eq 0) 34],
  [j0 (.iconst 0), j1 .ireturn 1, j0 (.iinc 2 1), j1 (.goto 0) 17, j0 (.iconst 1), j1 .ireturn 1]]
/-- 75 java/lang/String.length()I -/
def mj_k75 : List (List mj_Ins) := [[j0 (.aload 0), j3 (.getfield 0) 41 1 0, j0 .arraylength, j0 (.aload 0), j3 (.invokestatic 76) 1 1 42, j0 .ishr, j1 .ireturn 0]]
/-- 76 java/lang/String.coder()B -/
def mj_k76 : List (List mj_Ins) := [[j0 (.iconst 1), j1 (.ifCond .eq 0) 5, j0 (.aload 0), j3 (.getfield 1) 41 0 0, j1 (.goto 0) 6, j0 (.iconst 1), j1 .ireturn 3]]
/-- 77 java/lang/String.charAt(I)C -/
def mj_k77 : List (List mj_Ins) := [[j0 (.aload 0), j3 (.invokestatic 78) 1 1 42, j1 (.ifCond .eq 0) 8, j0 (.aload 0), j3 (.getfield 0) 41 1 0, j0 (.iload 1), j3 (.invokestatic 79) 2 1 0, j1 .ireturn 2, j0 (.aload 0), j3 (.getfield 0) 41 1 0, j0 (.iload 1), j3 (.invokestatic 82) 2 1 0, j1 .ireturn 2]]
/-- 78 java/lang/String.isLatin1()Z -/
def mj_k78 : List (List mj_Ins) := [[j0 (.iconst 1), j1 (.ifCond .eq 0) 7, j0 (.aload 0), j3 (.getfield 1) 41 0 0, j1 (.ifCond .ne 0) 7, j0 (.iconst 1), j1 (.goto 0) 8, j0 (.iconst 0), j1 .ireturn 1]]
/-- 79 java/lang/StringLatin1.charAt([BI)C -/
def mj_k79 : List (List mj_Ins) := [[j0 (.iload 1), j0 (.aload 0), j0 .arraylength, j3 (.invokestatic 80) 2 0 0, j0 (.aload 0), j0 (.iload 1), j0 .baload, j0 (.iconst 255), j0 .iand, j0 .i2c, j1 .ireturn 2]]
/-- 80 java/lang/String.checkIndex(II)V -/
def mj_k80 : List (List mj_Ins) := [[j0 (.iload 0), j0 (.iload 1), j0 (.ldc 19), j3 (.invokestatic 81) 3 1 0, j0 .pop, j0 .return_]]
/-- 81 jdk/internal/util/Preconditions.checkIndex(IILjava/util/function/BiFunction;)I -/
def mj_k81 : List (List mj_Ins) := [[j0 (.iload 0), j1 (.ifCond .lt 0) 5, j0 (.iload 0), j0 (.iload 1), j1 (.if_icmp .lt 0) 10, j0 (.aload 2), j0 (.iload 0), j0 (.iload 1), j0 .nop, j0 .nop, j0 (.iload 0), j1 .ireturn 0]]
/-- 82 java/lang/StringUTF16.charAt([BI)C -/
def mj_k82 : List (List mj_Ins) := [[j0 (.iload 1), j0 (.aload 0), j3 (.invokestatic 83) 2 0 0, j0 (.aload 0), j0 (.iload 1), j3 (.invokestatic 85) 2 1 0, j1 .ireturn 2]]
/-- 83 java/lang/StringUTF16.checkIndex(I[B)V -/
def mj_k83 : List (List mj_Ins) := [[j0 (.iload 0), j0 (.aload 1), j3 (.invokestatic 84) 1 1 0, j3 (.invokestatic 80) 2 0 0, j0 .return_]]
/-- 84 java/lang/StringUTF16.length([B)I -/
def mj_k84 : List (List mj_Ins) := [[j0 (.aload 0), j0 .arraylength, j0 (.iconst 1), j0 .ishr, j1 .ireturn 0]]
/-- 85 java/lang/StringUTF16.getChar([BI)C -/
def mj_k85 : List (List mj_Ins) := [[j0 .nop, j1 (.ifCond .ne 0) 13, j0 (.iload 1), j1 (.ifCond .lt 0) 8, j0 (.iload 1), j0 (.aload 0), j3 (.invokestatic 84) 1 1 0, j1 (.if_icmp .lt 0) 13, j0 .nop, j0 .dup, j0 .nop, j0 .nop, j0 .nop, j0 (.iload 1), j0 (.iconst 1), j0 .ishl],
  [j0 (.istore 1), j0 (.aload 0), j0 (.iload 1), j0 (.iinc 1 1), j0 .baload, j0 (.iconst 255), j0 .iand, j0 .nop, j0 .ishl, j0 (.aload 0), j0 (.iload 1), j0 .baload, j0 (.iconst 255), j0 .iand, j0 .nop, j0 .ishl],
  [j0 .ior, j0 .i2c, j1 .ireturn 2]]
/-- 86 WhoSigns$Reader.part(III)Z -/
def mj_k86 : List (List mj_Ins) := [[j0 (.iload 1), j0 (.iconst 5), j1 (.if_icmp .lt 0) 8, j0 (.aload 0), j0 (.iload 2), j0 (.iload 3), j3 (.invokestatic 87) 3 1 9, j1 .ireturn 1, j0 (.aload 0), j0 (.iload 1), j0 (.iconst 1), j0 .iadd, j0 (.iload 2), j0 (.iload 3), j3 (.invokestatic 86) 4 1 9, j1 (.ifCond .ne 0) 18],
  [j0 (.iconst 0), j1 .ireturn 1, j0 (.iload 1), j0 (.iconst 2), j1 (.if_icmp .ne 0) 23, j0 (.iconst 1), j1 (.goto 0) 24, j0 (.iconst 96), j0 (.istore 4), j0 (.iconst 0), j0 (.istore 5), j0 (.iload 5), j0 (.iload 4), j1 (.if_icmp .ge 0) 66, j0 (.aload 0), j3 (.getfield 2) 8 0 0],
  [j0 (.iconst 3), j1 (.if_icmp .ne 0) 66, j0 (.aload 0), j3 (.getfield 0) 8 1 1, j0 (.aload 0), j3 (.getfield 3) 8 0 0, j0 .iaload, j3 (.invokestatic 107) 1 1 0, j0 (.iload 1), j1 (.if_icmp .ne 0) 66, j0 (.aload 0), j3 (.getfield 0) 8 1 1, j0 (.aload 0), j3 (.getfield 3) 8 0 0, j0 .iaload, j0 (.istore 6)],
  [j0 (.aload 0), j3 (.invokestatic 71) 1 0 9, j0 (.aload 0), j0 (.iload 1), j0 (.iconst 1), j0 .iadd, j0 (.iload 2), j0 (.iload 3), j3 (.invokestatic 86) 4 1 9, j1 (.ifCond .ne 0) 60, j0 (.iconst 0), j1 .ireturn 1, j0 (.aload 0), j0 (.iload 6), j0 .ineg, j3 (.invokestatic 89) 2 0 9],
  [j0 (.iinc 5 1), j1 (.goto 0) 27, j0 (.iconst 1), j1 .ireturn 1]]
/-- 87 WhoSigns$Reader.piece(II)Z -/
def mj_k87 : List (List mj_Ins) := [[j0 (.aload 0), j3 (.getfield 2) 8 0 0, j0 (.iconst 2), j1 (.if_icmp .ne 0) 7, j0 (.aload 0), j3 (.invokestatic 88) 1 1 9, j1 .ireturn 1, j0 (.aload 0), j3 (.getfield 2) 8 0 0, j0 (.iconst 1), j1 (.if_icmp .ne 0) 14, j0 (.aload 0), j3 (.invokestatic 90) 1 1 9, j1 .ireturn 1, j0 (.aload 0), j3 (.getfield 2) 8 0 0],
  [j0 (.iconst 3), j1 (.if_icmp .eq 0) 20, j0 (.iconst 0), j1 .ireturn 1, j0 (.aload 0), j3 (.getfield 0) 8 1 1, j0 (.aload 0), j3 (.getfield 3) 8 0 0, j0 .iaload, j0 (.iconst 33), j1 (.if_icmp .ne 0) 46, j0 (.iload 2), j0 (.iconst 8), j1 (.if_icmp .ge 0) 46, j0 (.aload 0), j3 (.invokestatic 71) 1 0 9],
  [j0 (.aload 0), j0 (.iload 1), j0 (.iload 2), j0 (.iconst 1), j0 .iadd, j3 (.invokestatic 87) 3 1 9, j1 (.ifCond .ne 0) 41, j0 (.iconst 0), j1 .ireturn 1, j0 (.aload 0), j0 (.iconst (-33)), j3 (.invokestatic 89) 2 0 9, j0 (.iconst 1), j1 .ireturn 1, j0 (.aload 0), j3 (.getfield 0) 8 1 1],
  [j0 (.aload 0), j3 (.getfield 3) 8 0 0, j0 .iaload, j0 (.iconst 40), j1 (.if_icmp .ne 0) 83, j0 (.iload 1), j0 (.iconst 8), j1 (.if_icmp .ge 0) 83, j0 (.aload 0), j3 (.invokestatic 71) 1 0 9, j0 (.aload 0), j0 (.iconst 0), j0 (.iload 1), j0 (.iconst 1), j0 .iadd, j0 (.iload 2)],
  [j3 (.invokestatic 86) 4 1 9, j1 (.ifCond .eq 0) 77, j0 (.aload 0), j3 (.getfield 2) 8 0 0, j0 (.iconst 3), j1 (.if_icmp .ne 0) 77, j0 (.aload 0), j3 (.getfield 0) 8 1 1, j0 (.aload 0), j3 (.getfield 3) 8 0 0, j0 .iaload, j0 (.iconst 41), j1 (.if_icmp .eq 0) 79, j0 (.iconst 0), j1 .ireturn 1, j0 (.aload 0)],
  [j3 (.invokestatic 71) 1 0 9, j0 (.iconst 1), j1 .ireturn 1, j0 (.iconst 0), j1 .ireturn 1]]
/-- 88 WhoSigns$Reader.number()Z -/
def mj_k88 : List (List mj_Ins) := [[j0 (.aload 0), j3 (.getfield 4) 8 0 0, j0 (.aload 0), j3 (.getfield 3) 8 0 0, j0 .isub, j0 (.iconst 4), j1 (.if_icmp .le 0) 9, j0 (.iconst 0), j1 .ireturn 1, j0 (.iconst 0), j0 (.istore 1), j0 (.aload 0), j3 (.getfield 3) 8 0 0, j0 (.istore 2), j0 (.iload 2), j0 (.aload 0)],
  [j3 (.getfield 4) 8 0 0, j1 (.if_icmp .ge 0) 31, j0 (.iload 1), j0 (.iconst 10), j0 .imul, j0 (.aload 0), j3 (.getfield 0) 8 1 1, j0 (.iload 2), j0 .iaload, j0 .iadd, j0 (.iconst 48), j0 .isub, j0 (.istore 1), j0 (.iinc 2 1), j1 (.goto 0) 14, j0 (.aload 0)],
  [j0 .dup, j3 (.getfield 6) 8 0 0, j0 (.iconst 1), j0 .iadd, j3 (.putfield 6) 8 0 0, j0 (.aload 0), j0 (.iload 1), j3 (.invokestatic 89) 2 0 9, j0 (.aload 0), j3 (.invokestatic 71) 1 0 9, j0 (.iconst 1), j1 .ireturn 1]]
/-- 89 WhoSigns$Reader.put(I)V -/
def mj_k89 : List (List mj_Ins) := [[j0 (.aload 0), j3 (.getfield 8) 8 0 0, j0 (.iconst 96), j1 (.if_icmp .ge 0) 16, j0 (.aload 0), j3 (.getfield 7) 8 1 1, j0 (.aload 0), j3 (.getfield 8) 8 0 0, j0 (.iload 1), j0 .iastore, j0 (.aload 0), j0 .dup, j3 (.getfield 8) 8 0 0, j0 (.iconst 1), j0 .iadd, j3 (.putfield 8) 8 0 0],
  [j0 .return_]]
/-- 90 WhoSigns$Reader.name()Z -/
def mj_k90 : List (List mj_Ins) := [[j0 (.aload 0), j3 (.getfield 4) 8 0 0, j0 (.aload 0), j3 (.getfield 3) 8 0 0, j0 .isub, j0 (.iconst 1), j1 (.if_icmp .ne 0) 18, j0 (.aload 0), j3 (.getfield 5) 8 0 0, j3 (.invokestatic 91) 1 1 0, j0 (.aload 0), j3 (.getfield 0) 8 1 1, j0 (.aload 0), j3 (.getfield 3) 8 0 0, j0 .iaload, j0 .i2c],
  [j3 (.invokestatic 92) 2 1 42, j1 (.ifCond .ge 0) 20, j0 (.iconst 0), j1 .ireturn 1, j0 (.aload 0), j0 .dup, j3 (.getfield 6) 8 0 0, j0 (.iconst 1), j0 .iadd, j3 (.putfield 6) 8 0 0, j0 (.aload 0), j0 (.iconst (-1)), j0 (.ldc 9), j0 (.aload 0), j3 (.getfield 0) 8 1 1, j0 (.aload 0)],
  [j3 (.getfield 3) 8 0 0, j0 .iaload, j0 .i2c, j3 (.invokestatic 92) 2 1 42, j0 .isub, j3 (.invokestatic 89) 2 0 9, j0 (.aload 0), j3 (.invokestatic 71) 1 0 9, j0 (.iconst 1), j1 .ireturn 1]]
/-- 91 WhoSigns$Reader.namesOf(I)Ljava/lang/String; -/
def mj_k91 : List (List mj_Ins) := [[j0 (.iload 0), j1 (.ifCond .ne 0) 4, j0 (.ldc 6), j1 .ireturn 4, j0 (.iload 0), j0 (.iconst 1), j1 (.if_icmp .ne 0) 9, j0 (.ldc 7), j1 (.goto 0) 10, j0 (.ldc 8), j1 .ireturn 4]]
/-- 92 java/lang/String.indexOf(I)I -/
def mj_k92 : List (List mj_Ins) := [[j0 (.aload 0), j0 (.iload 1), j0 (.iconst 0), j3 (.invokestatic 93) 3 1 42, j1 .ireturn 0]]
/-- 93 java/lang/String.indexOf(II)I -/
def mj_k93 : List (List mj_Ins) := [[j0 (.aload 0), j3 (.invokestatic 78) 1 1 42, j1 (.ifCond .eq 0) 11, j0 (.aload 0), j3 (.getfield 0) 41 1 0, j0 (.iload 1), j0 (.iload 2), j0 (.aload 0), j3 (.invokestatic 75) 1 1 42, j3 (.invokestatic 94) 4 1 0, j1 (.goto 0) 18, j0 (.aload 0), j3 (.getfield 0) 41 1 0, j0 (.iload 1), j0 (.iload 2), j0 (.aload 0)],
  [j3 (.invokestatic 75) 1 1 42, j3 (.invokestatic 97) 4 1 0, j1 .ireturn 0]]
/-- 94 java/lang/StringLatin1.indexOf([BIII)I -/
def mj_k94 : List (List mj_Ins) := [[j0 (.iload 1), j3 (.invokestatic 95) 1 1 0, j1 (.ifCond .ne 0) 5, j0 (.iconst (-1)), j1 .ireturn 0, j0 (.iload 2), j0 (.iconst 0), j0 .ddiv, j0 (.istore 2), j0 (.iload 3), j0 (.aload 0), j0 .arraylength, j0 .dmul, j0 (.istore 3), j0 (.iload 2), j0 (.iload 3)],
  [j1 (.if_icmp .lt 0) 19, j0 (.iconst (-1)), j1 .ireturn 0, j0 (.aload 0), j0 (.iload 1), j0 (.iload 2), j0 (.iload 3), j3 (.invokestatic 96) 4 1 0, j1 .ireturn 0]]
/-- 95 java/lang/StringLatin1.canEncode(I)Z -/
def mj_k95 : List (List mj_Ins) := [[j0 (.iload 0), j1 (.ifCond .lt 0) 7, j0 (.iload 0), j0 (.iconst 255), j1 (.if_icmp .gt 0) 7, j0 (.iconst 1), j1 (.goto 0) 8, j0 (.iconst 0), j1 .ireturn 1]]
/-- 96 java/lang/StringLatin1.indexOfChar([BIII)I -/
def mj_k96 : List (List mj_Ins) := [[j0 (.iload 1), j0 .i2b, j0 (.istore 4), j0 (.iload 2), j0 (.istore 5), j0 (.iload 5), j0 (.iload 3), j1 (.if_icmp .ge 0) 17, j0 (.aload 0), j0 (.iload 5), j0 .baload, j0 (.iload 4), j1 (.if_icmp .ne 0) 15, j0 (.iload 5), j1 .ireturn 0, j0 (.iinc 5 1)],
  [j1 (.goto 0) 5, j0 (.iconst (-1)), j1 .ireturn 0]]
/-- 97 java/lang/StringUTF16.indexOf([BIII)I -/
def mj_k97 : List (List mj_Ins) := [[j0 (.iload 2), j0 (.iconst 0), j0 .ddiv, j0 (.istore 2), j0 (.iload 3), j0 (.aload 0), j0 .arraylength, j0 (.iconst 1), j0 .ishr, j0 .dmul, j0 (.istore 3), j0 (.iload 2), j0 (.iload 3), j1 (.if_icmp .lt 0) 16, j0 (.iconst (-1)), j1 .ireturn 0],
  [j0 (.iload 1), j0 (.iconst 65536), j1 (.if_icmp .ge 0) 25, j0 (.aload 0), j0 (.iload 1), j0 (.iload 2), j0 (.iload 3), j3 (.invokestatic 98) 4 1 0, j1 .ireturn 0, j0 (.aload 0), j0 (.iload 1), j0 (.iload 2), j0 (.iload 3), j3 (.invokestatic 103) 4 1 0, j1 .ireturn 0]]
/-- 98 java/lang/StringUTF16.indexOfChar([BIII)I -/
def mj_k98 : List (List mj_Ins) := [[j0 (.iload 2), j0 (.iload 3), j0 (.aload 0), j3 (.invokestatic 99) 3 0 0, j0 (.aload 0), j0 (.iload 1), j0 (.iload 2), j0 (.iload 3), j3 (.invokestatic 102) 4 1 0, j1 .ireturn 0]]
/-- 99 java/lang/StringUTF16.checkBoundsBeginEnd(II[B)V -/
def mj_k99 : List (List mj_Ins) := [[j0 (.iload 0), j0 (.iload 1), j0 (.aload 2), j3 (.invokestatic 84) 1 1 0, j3 (.invokestatic 100) 3 0 0, j0 .return_]]
/-- 100 java/lang/String.checkBoundsBeginEnd(III)V -/
def mj_k100 : List (List mj_Ins) := [[j0 (.iload 0), j0 (.iload 1), j0 (.iload 2), j0 (.ldc 19), j3 (.invokestatic 101) 4 1 0, j0 .pop, j0 .return_]]
/-- 101 jdk/internal/util/Preconditions.checkFromToIndex(IIILjava/util/function/BiFunction;)I -/
def mj_k101 : List (List mj_Ins) := [[j0 (.iload 0), j1 (.ifCond .lt 0) 8, j0 (.iload 0), j0 (.iload 1), j1 (.if_icmp .gt 0) 8, j0 (.iload 1), j0 (.iload 2), j1 (.if_icmp .le 0) 14, j0 (.aload 3), j0 (.iload 0), j0 (.iload 1), j0 (.iload 2), j0 .nop, j0 .nop, j0 (.iload 0), j1 .ireturn 0]]
/-- 102 java/lang/StringUTF16.indexOfCharUnsafe([BIII)I -/
def mj_k102 : List (List mj_Ins) := [[j0 (.iload 2), j0 (.istore 4), j0 (.iload 4), j0 (.iload 3), j1 (.if_icmp .ge 0) 14, j0 (.aload 0), j0 (.iload 4), j3 (.invokestatic 85) 2 1 0, j0 (.iload 1), j1 (.if_icmp .ne 0) 12, j0 (.iload 4), j1 .ireturn 0, j0 (.iinc 4 1), j1 (.goto 0) 2, j0 (.iconst (-1)), j1 .ireturn 0]]
/-- 103 java/lang/StringUTF16.indexOfSupplementary([BIII)I -/
def mj_k103 : List (List mj_Ins) := [[j0 (.iload 1), j3 (.invokestatic 104) 1 1 0, j1 (.ifCond .eq 0) 36, j0 (.iload 1), j3 (.invokestatic 105) 1 1 0, j0 (.istore 4), j0 (.iload 1), j3 (.invokestatic 106) 1 1 0, j0 (.istore 5), j0 (.iload 2), j0 (.iload 3), j0 (.aload 0), j3 (.invokestatic 99) 3 0 0, j0 (.iload 2), j0 (.istore 6), j0 (.iload 6)],
  [j0 (.iload 3), j0 (.iconst 1), j0 .isub, j1 (.if_icmp .ge 0) 36, j0 (.aload 0), j0 (.iload 6), j3 (.invokestatic 85) 2 1 0, j0 (.iload 4), j1 (.if_icmp .ne 0) 34, j0 (.aload 0), j0 (.iload 6), j0 (.iconst 1), j0 .iadd, j3 (.invokestatic 85) 2 1 0, j0 (.iload 5), j1 (.if_icmp .ne 0) 34],
  [j0 (.iload 6), j1 .ireturn 0, j0 (.iinc 6 1), j1 (.goto 0) 15, j0 (.iconst (-1)), j1 .ireturn 0]]
/-- 104 java/lang/Character.isValidCodePoint(I)Z -/
def mj_k104 : List (List mj_Ins) := [[j0 (.iload 0), j0 (.iconst 16), j0 .iushr, j0 (.istore 1), j0 (.iload 1), j0 (.iconst 17), j1 (.if_icmp .ge 0) 9, j0 (.iconst 1), j1 (.goto 0) 10, j0 (.iconst 0), j1 .ireturn 1]]
/-- 105 java/lang/Character.highSurrogate(I)C -/
def mj_k105 : List (List mj_Ins) := [[j0 (.iload 0), j0 (.iconst 10), j0 .iushr, j0 (.iconst 55232), j0 .iadd, j0 .i2c, j1 .ireturn 2]]
/-- 106 java/lang/Character.lowSurrogate(I)C -/
def mj_k106 : List (List mj_Ins) := [[j0 (.iload 0), j0 (.iconst 1023), j0 .iand, j0 (.iconst 56320), j0 .iadd, j0 .i2c, j1 .ireturn 2]]
/-- 107 WhoSigns$Reader.levelOf(I)I -/
def mj_k107 : List (List mj_Ins) := [[j0 (.iload 0), (.lookupswitch 0 #[], 12, 0, 0, [(38, 4), (42, 10), (43, 8), (45, 8), (47, 10), (60, 6), (61, 6), (62, 6), (124, 2)]), j0 (.iconst 0), j1 .ireturn 0, j0 (.iconst 1), j1 .ireturn 0, j0 (.iconst 2), j1 .ireturn 0, j0 (.iconst 3), j1 .ireturn 0, j0 (.iconst 4), j1 .ireturn 0, j0 (.iconst 5), j1 .ireturn 0]]
/-- 108 WhoSigns$Reader.makeText()LWhoSigns$Text; -/
def mj_k108 : List (List mj_Ins) := [[j1 (.new 11) 3, j0 .dup, j0 (.aload 0), j3 (.getfield 5) 8 0 0, j0 (.aload 0), j3 (.getfield 6) 8 0 0, j0 (.aload 0), j3 (.getfield 7) 8 1 1, j0 (.aload 0), j3 (.getfield 8) 8 0 0, j3 (.invokestatic 109) 2 1 0, j3 (.invokestatic 110) 4 0 12, j1 .ireturn 4]]
/-- 109 java/util/Arrays.copyOf([II)[I -/
def mj_k109 : List (List mj_Ins) := [[j0 (.iload 1), j0 (.aload 0), j0 .arraylength, j1 (.if_icmp .ne 0) 8, j0 (.aload 0), j0 .nop, j0 .nop, j1 .ireturn 4, j0 (.iload 1), j1 (.newarray .int) 20, j0 (.astore 2), j0 (.aload 0), j0 (.iconst 0), j0 (.aload 2), j0 (.iconst 0), j0 (.aload 0)],
  [j0 .arraylength, j0 (.iload 1), j0 .dmul, j0 (.invokedynamic 0), j0 (.aload 2), j1 .ireturn 4]]
/-- 110 WhoSigns$Text.<init>(II[I)V -/
def mj_k110 : List (List mj_Ins) := [[j0 (.aload 0), j0 .monitorenter, j0 (.aload 0), j0 (.iload 1), j3 (.putfield 0) 11 0 1, j0 (.aload 0), j0 (.iload 2), j3 (.putfield 1) 11 0 1, j0 (.aload 0), j0 (.aload 3), j3 (.putfield 2) 11 1 1, j0 .return_]]
/-- 111 WhoSigns$Book.addText(LWhoSigns$Text;)V -/
def mj_k111 : List (List mj_Ins) := [[j0 (.aload 0), j3 (.getfield 7) 1 0 0, j0 (.iconst 14), j1 (.if_icmp .ge 0) 23, j0 (.aload 0), j3 (.getfield 6) 1 1 1, j0 (.aload 0), j3 (.getfield 7) 1 0 0, j0 (.aload 1), j0 .aastore, j0 (.aload 0), j3 (.getfield 8) 1 1 1, j0 (.aload 1), j3 (.getfield 0) 11 0 1, j0 (.aload 0), j3 (.getfield 7) 1 0 0],
  [j0 .iastore, j0 (.aload 0), j0 .dup, j3 (.getfield 7) 1 0 0, j0 (.iconst 1), j0 .iadd, j3 (.putfield 7) 1 0 0, j0 .return_]]
/-- 112 WhoSigns.textTold(II)I -/
def mj_k112 : List (List mj_Ins) := [[j0 (.aload 0), j3 (.getfield 0) 0 1 1, j0 (.iload 1), j3 (.invokestatic 20) 2 1 2, j0 (.astore 3), j0 (.aload 3), j1 (.ifnonnull 0) 9, j0 (.iconst (-1000000001)), j1 .ireturn 0, j0 (.iload 2), (.lookupswitch 0 #[], 17, 0, 0, [(0, 11), (1, 14)]), j0 (.aload 3), j3 (.getfield 0) 11 0 1, j1 .ireturn 0, j0 (.aload 3), j3 (.getfield 1) 11 0 1],
  [j1 .ireturn 0, j0 (.iconst (-1000000001)), j1 .ireturn 0]]
/-- 113 WhoSigns.why(I)I -/
def mj_k113 : List (List mj_Ins) := [[j0 (.iload 1), j0 (.iconst 0), j0 (.iconst 2), j3 (.invokestatic 13) 3 1 0, j1 (.ifCond .ne 0) 7, j0 (.iconst (-1000000001)), j1 .ireturn 0, j0 (.aload 0), j3 (.getfield 0) 0 1 1, j3 (.getfield 8) 1 1 1, j0 (.iload 1), j0 .iaload, j0 (.istore 2), j0 (.iload 2), j1 (.ifCond .ge 0) 17, j0 (.iconst (-1000000005))],
  [j1 (.goto 0) 18, j0 (.iload 2), j1 .ireturn 0]]
/-- 114 WhoSigns.ways(I)I -/
def mj_k114 : List (List mj_Ins) := [[j0 (.iload 1), j3 (.invokestatic 28) 1 1 0, j1 (.ifCond .ne 0) 5, j0 (.iconst (-1000000001)), j1 .ireturn 0, j0 (.aload 0), j3 (.getfield 3) 0 1 1, j0 (.aload 0), j3 (.getfield 0) 0 1 1, j0 (.iload 1), j3 (.invokestatic 115) 3 1 7, j0 .pop, j0 (.aload 0), j3 (.getfield 3) 0 1 1, j3 (.invokestatic 120) 1 1 7, j1 .ireturn 0]]
/-- 115 WhoSigns$Finder.open(LWhoSigns$Book;I)Z -/
def mj_k115 : List (List mj_Ins) := [[j0 (.aload 0), j0 (.aload 1), j3 (.getfield 1) 1 0 0, j3 (.putfield 0) 6 0 0, j0 (.aload 0), j0 (.aload 1), j3 (.getfield 3) 1 0 0, j3 (.putfield 1) 6 0 0, j0 (.aload 0), j0 (.aload 1), j3 (.invokestatic 116) 2 0 7, j0 (.aload 0), j0 (.iconst 0), j3 (.putfield 2) 6 0 0, j0 (.iconst 1), j0 (.istore 3)],
  [j0 (.iconst 0), j0 (.istore 4), j0 (.iload 4), j0 (.aload 0), j3 (.getfield 1) 6 0 0, j1 (.if_icmp .ge 0) 68, j0 (.aload 1), j3 (.getfield 2) 1 1 1, j0 (.iload 4), j0 .aaload, j3 (.getfield 3) 4 0 0, j0 (.istore 5), j0 (.iload 5), j1 (.ifCond .lt 0) 34, j0 (.iconst 1), j0 (.iload 5)],
  [j0 .ishl, j1 (.goto 0) 38, j0 (.aload 1), j0 (.iload 4), j0 (.iload 2), j3 (.invokestatic 34) 3 1 2, j0 (.istore 6), j0 (.iload 5), j1 (.ifCond .ge 0) 49, j0 (.aload 0), j0 .dup, j3 (.getfield 2) 6 0 0, j0 (.iconst 1), j0 (.iload 4), j0 .ishl, j0 .ior],
  [j3 (.putfield 2) 6 0 0, j0 (.iload 3), j1 (.ifCond .eq 0) 59, j0 (.aload 0), j3 (.getfield 3) 6 1 1, j0 (.iload 4), j0 .iaload, j0 (.iload 6), j1 (.if_icmp .ne 0) 59, j0 (.iconst 1), j1 (.goto 0) 60, j0 (.iconst 0), j0 (.istore 3), j0 (.aload 0), j3 (.getfield 3) 6 1 1, j0 (.iload 4)],
  [j0 (.iload 6), j0 .iastore, j0 (.iinc 4 1), j1 (.goto 0) 18, j0 (.iload 3), j1 .ireturn 1]]
/-- 116 WhoSigns$Finder.readRules(LWhoSigns$Book;)V -/
def mj_k116 : List (List mj_Ins) := [[j0 (.aload 0), j3 (.getfield 5) 6 1 1, j0 (.iconst (-1)), j3 (.invokestatic 53) 2 0 0, j0 (.aload 0), j0 (.iconst 0), j3 (.putfield 9) 6 0 0, j0 (.aload 0), j0 (.iconst 0), j3 (.putfield 10) 6 0 0, j0 (.iconst 0), j0 (.istore 2), j0 (.iload 2), j0 (.aload 1), j3 (.getfield 5) 1 0 0, j1 (.if_icmp .ge 0) 39],
  [j0 (.aload 1), j3 (.getfield 4) 1 1 1, j0 (.iload 2), j0 .aaload, j0 (.astore 3), j0 (.aload 3), j3 (.getfield 0) 5 0 0, j0 (.iconst 5), j1 (.if_icmp .ne 0) 29, j0 (.aload 0), j0 (.aload 3), j3 (.invokestatic 117) 2 0 7, j1 (.goto 0) 37, j0 (.aload 3), j3 (.getfield 0) 5 0 0, j1 (.ifCond .eq 0) 37],
  [j0 (.aload 0), j0 (.aload 3), j0 (.aload 1), j3 (.getfield 0) 1 1 1, j3 (.invokestatic 118) 3 0 7, j0 (.iinc 2 1), j1 (.goto 0) 12, j0 .return_]]
/-- 117 WhoSigns$Finder.readMany(LWhoSigns$Rule;)V -/
def mj_k117 : List (List mj_Ins) := [[j0 (.aload 0), j3 (.getfield 6) 6 1 1, j0 (.aload 0), j3 (.getfield 9) 6 0 0, j0 (.aload 1), j3 (.invokestatic 57) 1 1 6, j0 .iastore, j0 (.aload 0), j3 (.getfield 7) 6 1 1, j0 (.aload 0), j3 (.getfield 9) 6 0 0, j0 (.aload 1), j3 (.invokestatic 56) 1 1 6, j0 .iastore, j0 (.aload 0), j3 (.getfield 8) 6 1 1],
  [j0 (.aload 0), j3 (.getfield 9) 6 0 0, j0 (.aload 1), j3 (.getfield 3) 5 0 0, j0 .iastore, j0 (.aload 0), j0 .dup, j3 (.getfield 9) 6 0 0, j0 (.iconst 1), j0 .iadd, j3 (.putfield 9) 6 0 0, j0 .return_]]
/-- 118 WhoSigns$Finder.readPair(LWhoSigns$Rule;[LWhoSigns$Person;)V -/
def mj_k118 : List (List mj_Ins) := [[j0 (.iconst 0), j0 (.istore 3), j0 (.iload 3), j0 (.aload 0), j3 (.getfield 0) 6 0 0, j1 (.if_icmp .ge 0) 56, j0 (.iconst 0), j0 (.istore 4), j0 (.iload 4), j0 (.aload 0), j3 (.getfield 0) 6 0 0, j1 (.if_icmp .ge 0) 54, j0 (.aload 1), j0 (.aload 2), j0 (.iload 3), j0 (.iload 4)],
  [j3 (.invokestatic 58) 4 1 6, j1 (.ifCond .ne 0) 52, j0 (.aload 0), j3 (.getfield 5) 6 1 1, j0 (.aload 1), j3 (.getfield 1) 5 0 0, j0 (.aload 1), j3 (.getfield 2) 5 0 0, j0 (.iload 3), j3 (.invokestatic 119) 3 1 0, j0 .dup2, j0 .iaload, j0 (.iconst 1), j0 (.iload 4), j0 .ishl, j0 (.iconst (-1))],
  [j0 .ixor, j0 .iand, j0 .iastore, j0 (.aload 0), j3 (.getfield 5) 6 1 1, j0 (.aload 1), j3 (.getfield 2) 5 0 0, j0 (.aload 1), j3 (.getfield 1) 5 0 0, j0 (.iload 4), j3 (.invokestatic 119) 3 1 0, j0 .dup2, j0 .iaload, j0 (.iconst 1), j0 (.iload 3), j0 .ishl],
  [j0 (.iconst (-1)), j0 .ixor, j0 .iand, j0 .iastore, j0 (.iinc 4 1), j1 (.goto 0) 8, j0 (.iinc 3 1), j1 (.goto 0) 2, j0 (.aload 0), j0 .dup, j3 (.getfield 10) 6 0 0, j0 (.iconst 1), j0 (.aload 1), j3 (.invokestatic 57) 1 1 6, j0 .ishl, j0 .ior],
  [j3 (.putfield 10) 6 0 0, j0 .return_]]
/-- 119 WhoSigns$Finder.fitPlace(III)I -/
def mj_k119 : List (List mj_Ins) := [[j0 (.iload 0), j0 (.iconst 6), j0 .imul, j0 (.iload 1), j0 .iadd, j0 (.iconst 7), j0 .imul, j0 (.iload 2), j0 .iadd, j1 .ireturn 0]]
/-- 120 WhoSigns$Finder.countAll()I -/
def mj_k120 : List (List mj_Ins) := [[j0 (.aload 0), j0 (.iconst 0), j0 (.iconst 0), j3 (.invokestatic 121) 3 0 7, j0 (.aload 0), j0 (.iconst 0), j3 (.invokestatic 123) 2 1 7, j1 .ireturn 0]]
/-- 121 WhoSigns$Finder.leaveWithout(II)V -/
def mj_k121 : List (List mj_Ins) := [[j0 (.iconst 0), j0 (.istore 3), j0 (.iload 3), j0 (.aload 0), j3 (.getfield 1) 6 0 0, j1 (.if_icmp .ge 0) 26, j0 (.aload 0), j3 (.getfield 4) 6 1 1, j0 (.iload 3), j0 (.aload 0), j3 (.getfield 3) 6 1 1, j0 (.iload 3), j0 .iaload, j0 (.aload 0), j0 (.iload 3), j3 (.invokestatic 122) 2 1 7],
  [j1 (.ifCond .eq 0) 19, j0 (.iload 1), j1 (.goto 0) 20, j0 (.iload 2), j0 (.iconst (-1)), j0 .ixor, j0 .iand, j0 .iastore, j0 (.iinc 3 1), j1 (.goto 0) 2, j0 .return_]]
/-- 122 WhoSigns$Finder.isOpen(I)Z -/
def mj_k122 : List (List mj_Ins) := [[j0 (.aload 0), j3 (.getfield 2) 6 0 0, j0 (.iload 1), j0 .ishr, j0 (.iconst 1), j0 .iand, j1 (.ifCond .eq 0) 9, j0 (.iconst 1), j1 (.goto 0) 10, j0 (.iconst 0), j1 .ireturn 1]]
/-- 123 WhoSigns$Finder.countFrom(I)I -/
def mj_k123 : List (List mj_Ins) := [[j0 (.iload 1), j0 (.aload 0), j3 (.getfield 1) 6 0 0, j1 (.if_icmp .lt 0) 6, j0 (.iconst 1), j1 .ireturn 0, j0 (.aload 0), j0 (.iload 1), j3 (.invokestatic 124) 2 1 7, j0 (.istore 2), j0 (.aload 0), j0 (.iload 1), j3 (.invokestatic 126) 2 1 7, j0 (.istore 3), j0 (.iconst 0), j0 (.istore 4)],
  [j0 (.iconst 0), j0 (.istore 5), j0 (.iload 5), j0 (.aload 0), j3 (.getfield 0) 6 0 0, j1 (.if_icmp .ge 0) 54, j0 (.iload 2), j0 (.iload 5), j0 .ishr, j0 (.iconst 1), j0 .iand, j1 (.ifCond .eq 0) 52, j0 (.aload 0), j0 (.iload 1), j0 (.iload 5), j3 (.invokestatic 127) 3 1 7],
  [j1 (.ifCond .eq 0) 39, j0 (.aload 0), j0 (.iload 1), j0 (.iconst 1), j0 .iadd, j3 (.invokestatic 123) 2 1 7, j1 (.goto 0) 40, j0 (.iconst 0), j0 (.istore 6), j0 (.iload 3), j1 (.ifCond .ne 0) 48, j0 (.iload 6), j0 (.iload 2), j3 (.invokestatic 38) 1 1 0, j0 .imul, j1 .ireturn 0],
  [j0 (.iload 4), j0 (.iload 6), j0 .iadd, j0 (.istore 4), j0 (.iinc 5 1), j1 (.goto 0) 18, j0 (.iload 4), j1 .ireturn 0]]
/-- 124 WhoSigns$Finder.leftFor(I)I -/
def mj_k124 : List (List mj_Ins) := [[j0 (.aload 0), j3 (.getfield 4) 6 1 1, j0 (.iload 1), j0 (.iconst 6), j0 .imul, j0 (.iload 1), j0 .iadd, j0 .iaload, j0 (.istore 2), j0 (.iconst 0), j0 (.istore 3), j0 (.iload 3), j0 (.aload 0), j3 (.getfield 9) 6 0 0, j1 (.if_icmp .ge 0) 70, j0 (.aload 0)],
  [j3 (.getfield 6) 6 1 1, j0 (.iload 3), j0 .iaload, j0 (.iload 1), j1 (.if_icmp .gt 0) 68, j0 (.iload 1), j0 (.aload 0), j3 (.getfield 7) 6 1 1, j0 (.iload 3), j0 .iaload, j1 (.if_icmp .gt 0) 68, j0 (.aload 0), j0 (.aload 0), j3 (.getfield 6) 6 1 1, j0 (.iload 3), j0 .iaload],
  [j0 (.iload 1), j3 (.invokestatic 125) 3 1 7, j0 (.istore 4), j0 (.aload 0), j3 (.getfield 8) 6 1 1, j0 (.iload 3), j0 .iaload, j0 (.iload 4), j3 (.invokestatic 38) 1 1 0, j0 .isub, j0 (.istore 5), j0 (.aload 0), j3 (.getfield 7) 6 1 1, j0 (.iload 3), j0 .iaload, j0 (.iload 1)],
  [j0 .isub, j0 (.iconst 1), j0 .iadd, j0 (.istore 6), j0 (.iload 5), j0 (.iload 6), j1 (.if_icmp .le 0) 57, j0 (.iconst 0), j1 .ireturn 0, j0 (.iload 5), j0 (.iload 6), j1 (.if_icmp .ne 0) 66, j0 (.iload 2), j0 (.iload 4), j0 (.iconst (-1)), j0 .ixor],
  [j0 .iand, j1 (.goto 0) 67, j0 (.iload 2), j0 (.istore 2), j0 (.iinc 3 1), j1 (.goto 0) 11, j0 (.iload 2), j1 .ireturn 0]]
/-- 125 WhoSigns$Finder.seenFrom(II)I -/
def mj_k125 : List (List mj_Ins) := [[j0 (.iconst 0), j0 (.istore 3), j0 (.iload 1), j0 (.istore 4), j0 (.iload 4), j0 (.iload 2), j1 (.if_icmp .ge 0) 18, j0 (.iload 3), j0 (.iconst 1), j0 (.aload 0), j3 (.getfield 11) 6 1 1, j0 (.iload 4), j0 .iaload, j0 .ishl, j0 .ior, j0 (.istore 3)],
  [j0 (.iinc 4 1), j1 (.goto 0) 4, j0 (.iload 3), j1 .ireturn 0]]
/-- 126 WhoSigns$Finder.isTied(I)Z -/
def mj_k126 : List (List mj_Ins) := [[j0 (.aload 0), j3 (.getfield 10) 6 0 0, j0 (.iload 1), j0 .ishr, j0 (.iconst 1), j0 .iand, j1 (.ifCond .eq 0) 9, j0 (.iconst 1), j1 .ireturn 1, j0 (.iconst 0), j0 (.istore 2), j0 (.iload 2), j0 (.aload 0), j3 (.getfield 9) 6 0 0, j1 (.if_icmp .ge 0) 44, j0 (.aload 0)],
  [j3 (.getfield 6) 6 1 1, j0 (.iload 2), j0 .iaload, j0 (.iload 1), j1 (.if_icmp .gt 0) 42, j0 (.iload 1), j0 (.aload 0), j3 (.getfield 7) 6 1 1, j0 (.iload 2), j0 .iaload, j1 (.if_icmp .ge 0) 42, j0 (.aload 0), j0 (.aload 0), j3 (.getfield 6) 6 1 1, j0 (.iload 2), j0 .iaload],
  [j0 (.iload 1), j3 (.invokestatic 125) 3 1 7, j3 (.invokestatic 38) 1 1 0, j0 (.aload 0), j3 (.getfield 8) 6 1 1, j0 (.iload 2), j0 .iaload, j1 (.if_icmp .ge 0) 42, j0 (.iconst 1), j1 .ireturn 1, j0 (.iinc 2 1), j1 (.goto 0) 11, j0 (.iconst 0), j1 .ireturn 1]]
/-- 127 WhoSigns$Finder.give(II)Z -/
def mj_k127 : List (List mj_Ins) := [[j0 (.aload 0), j3 (.getfield 11) 6 1 1, j0 (.iload 1), j0 (.iload 2), j0 .iastore, j0 (.iload 1), j0 (.iconst 1), j0 .iadd, j0 (.istore 3), j0 (.iload 3), j0 (.aload 0), j3 (.getfield 1) 6 0 0, j1 (.if_icmp .ge 0) 47, j0 (.aload 0), j3 (.getfield 4) 6 1 1, j0 (.iload 1)],
  [j0 (.iconst 6), j0 .imul, j0 (.iload 3), j0 .iadd, j0 .iaload, j0 (.aload 0), j3 (.getfield 5) 6 1 1, j0 (.iload 1), j0 (.iload 3), j0 (.iload 2), j3 (.invokestatic 119) 3 1 0, j0 .iaload, j0 .iand, j0 (.istore 4), j0 (.iload 4), j1 (.ifCond .ne 0) 34],
  [j0 (.iconst 0), j1 .ireturn 1, j0 (.aload 0), j3 (.getfield 4) 6 1 1, j0 (.iload 1), j0 (.iconst 1), j0 .iadd, j0 (.iconst 6), j0 .imul, j0 (.iload 3), j0 .iadd, j0 (.iload 4), j0 .iastore, j0 (.iinc 3 1), j1 (.goto 0) 9, j0 (.iconst 1)],
  [j1 .ireturn 1]]
/-- 128 WhoSigns.way(II)I -/
def mj_k128 : List (List mj_Ins) := [[j0 (.iload 1), j0 (.iconst 0), j0 (.iconst 1), j3 (.invokestatic 13) 3 1 0, j1 (.ifCond .eq 0) 14, j0 (.iload 2), j0 (.iconst (-1)), j0 (.aload 0), j3 (.getfield 0) 0 1 1, j3 (.getfield 3) 1 0 0, j0 (.iconst 1), j0 .isub, j3 (.invokestatic 13) 3 1 0, j1 (.ifCond .ne 0) 16, j0 (.iconst (-1000000001)), j1 .ireturn 0],
  [j0 (.aload 0), j3 (.getfield 3) 0 1 1, j0 (.aload 0), j3 (.getfield 0) 0 1 1, j0 (.aload 0), j3 (.getfield 0) 0 1 1, j3 (.getfield 13) 1 0 0, j3 (.invokestatic 115) 3 1 7, j0 .pop, j0 (.aload 0), j3 (.getfield 3) 0 1 1, j0 (.aload 0), j3 (.getfield 0) 0 1 1, j3 (.invokestatic 129) 2 0 7, j0 (.iload 1), j1 (.ifCond .ne 0) 36],
  [j0 (.aload 0), j3 (.getfield 3) 0 1 1, j3 (.invokestatic 130) 1 1 7, j1 (.goto 0) 39, j0 (.aload 0), j3 (.getfield 3) 0 1 1, j3 (.invokestatic 133) 1 1 7, j0 (.istore 3), j0 (.iload 3), j1 (.ifCond .ne 0) 44, j0 (.iconst (-1000000005)), j1 .ireturn 0, j0 (.iload 2), j1 (.ifCond .ge 0) 50, j0 (.aload 0), j3 (.getfield 3) 0 1 1],
  [j3 (.invokestatic 137) 1 1 7, j1 (.goto 0) 55, j0 (.aload 0), j3 (.getfield 3) 0 1 1, j3 (.getfield 15) 6 1 1, j0 (.iload 2), j0 .iaload, j1 .ireturn 0]]
/-- 129 WhoSigns$Finder.readCosts(LWhoSigns$Book;)V -/
def mj_k129 : List (List mj_Ins) := [[j0 (.iconst 0), j0 (.istore 2), j0 (.iload 2), j0 (.aload 0), j3 (.getfield 1) 6 0 0, j1 (.if_icmp .ge 0) 34, j0 (.iconst 0), j0 (.istore 3), j0 (.iload 3), j0 (.aload 0), j3 (.getfield 0) 6 0 0, j1 (.if_icmp .ge 0) 32, j0 (.aload 0), j3 (.getfield 12) 6 1 1, j0 (.iload 2), j0 (.iconst 7)],
  [j0 .imul, j0 (.iload 3), j0 .iadd, j0 (.aload 0), j0 (.iload 2), j3 (.invokestatic 122) 2 1 7, j1 (.ifCond .eq 0) 28, j0 (.aload 1), j0 (.iload 3), j0 (.iload 2), j3 (.invokestatic 42) 3 1 2, j1 (.goto 0) 29, j0 (.iconst 0), j0 .iastore, j0 (.iinc 3 1), j1 (.goto 0) 8],
  [j0 (.iinc 2 1), j1 (.goto 0) 2, j0 .return_]]
/-- 130 WhoSigns$Finder.findFirst()Z -/
def mj_k130 : List (List mj_Ins) := [[j0 (.aload 0), j0 (.iconst 0), j3 (.invokestatic 131) 2 1 7, j0 (.istore 1), j0 (.iload 1), j1 (.ifCond .eq 0) 14, j0 (.aload 0), j3 (.getfield 11) 6 1 1, j0 (.iconst 0), j0 (.aload 0), j3 (.getfield 15) 6 1 1, j0 (.iconst 0), j0 (.iconst 6), j0 (.invokedynamic 0), j0 (.iload 1), j1 .ireturn 1]]
/-- 131 WhoSigns$Finder.isAny(I)Z -/
def mj_k131 : List (List mj_Ins) := [[j0 (.aload 0), j0 (.iload 1), j0 (.iconst 0), j3 (.invokestatic 121) 3 0 7, j0 (.aload 0), j0 (.iconst 0), j3 (.invokestatic 132) 2 1 7, j1 .ireturn 1]]
/-- 132 WhoSigns$Finder.isAnyFrom(I)Z -/
def mj_k132 : List (List mj_Ins) := [[j0 (.iload 1), j0 (.aload 0), j3 (.getfield 1) 6 0 0, j1 (.if_icmp .lt 0) 6, j0 (.iconst 1), j1 .ireturn 1, j0 (.aload 0), j0 (.iload 1), j3 (.invokestatic 124) 2 1 7, j0 (.istore 2), j0 (.aload 0), j0 (.iload 1), j3 (.invokestatic 126) 2 1 7, j0 (.istore 3), j0 (.iconst 0), j0 (.istore 4)],
  [j0 (.iload 4), j0 (.aload 0), j3 (.getfield 0) 6 0 0, j1 (.if_icmp .ge 0) 45, j0 (.iload 2), j0 (.iload 4), j0 .ishr, j0 (.iconst 1), j0 .iand, j1 (.ifCond .eq 0) 43, j0 (.aload 0), j0 (.iload 1), j0 (.iload 4), j3 (.invokestatic 127) 3 1 7, j1 (.ifCond .eq 0) 39, j0 (.aload 0)],
  [j0 (.iload 1), j0 (.iconst 1), j0 .iadd, j3 (.invokestatic 132) 2 1 7, j1 (.ifCond .eq 0) 39, j0 (.iconst 1), j1 .ireturn 1, j0 (.iload 3), j1 (.ifCond .ne 0) 43, j0 (.iconst 0), j1 .ireturn 1, j0 (.iinc 4 1), j1 (.goto 0) 16, j0 (.iconst 0), j1 .ireturn 1]]
/-- 133 WhoSigns$Finder.findCheapest()Z -/
def mj_k133 : List (List mj_Ins) := [[j0 (.aload 0), j0 (.iconst 0), j0 (.iconst 0), j3 (.invokestatic 121) 3 0 7, j0 (.aload 0), j3 (.getfield 13) 6 1 1, j0 (.aload 0), j3 (.getfield 1) 6 0 0, j0 (.iconst 0), j0 .iastore, j0 (.aload 0), j3 (.getfield 1) 6 0 0, j0 (.iconst 1), j0 .isub, j0 (.istore 1), j0 (.iload 1)],
  [j1 (.ifCond .lt 0) 33, j0 (.aload 0), j3 (.getfield 13) 6 1 1, j0 (.iload 1), j0 (.aload 0), j3 (.getfield 13) 6 1 1, j0 (.iload 1), j0 (.iconst 1), j0 .iadd, j0 .iaload, j0 (.aload 0), j0 (.iload 1), j3 (.invokestatic 134) 2 1 7, j0 .iadd, j0 .iastore, j0 (.iinc 1 (-1))],
  [j1 (.goto 0) 15, j0 (.aload 0), j0 (.iconst 1000000), j3 (.putfield 14) 6 0 0, j0 (.aload 0), j0 (.iconst 0), j0 (.iconst 0), j3 (.invokestatic 135) 3 0 7, j0 (.aload 0), j3 (.getfield 14) 6 0 0, j0 (.iconst 1000000), j1 (.if_icmp .ge 0) 46, j0 (.iconst 1), j1 (.goto 0) 47, j0 (.iconst 0), j1 .ireturn 1]]
/-- 134 WhoSigns$Finder.leastCostOf(I)I -/
def mj_k134 : List (List mj_Ins) := [[j0 (.iconst 1000000), j0 (.istore 2), j0 (.iconst 0), j0 (.istore 3), j0 (.iload 3), j0 (.aload 0), j3 (.getfield 0) 6 0 0, j1 (.if_icmp .ge 0) 30, j0 (.aload 0), j3 (.getfield 3) 6 1 1, j0 (.iload 1), j0 .iaload, j0 (.iload 3), j0 .ishr, j0 (.iconst 1), j0 .iand],
  [j1 (.ifCond .eq 0) 28, j0 (.iload 2), j0 (.aload 0), j3 (.getfield 12) 6 1 1, j0 (.iload 1), j0 (.iconst 7), j0 .imul, j0 (.iload 3), j0 .iadd, j0 .iaload, j0 .dmul, j0 (.istore 2), j0 (.iinc 3 1), j1 (.goto 0) 4, j0 (.iload 2), j1 .ireturn 0]]
/-- 135 WhoSigns$Finder.lookForCheaper(II)V -/
def mj_k135 : List (List mj_Ins) := [[j0 (.iload 2), j0 (.aload 0), j3 (.getfield 13) 6 1 1, j0 (.iload 1), j0 .iaload, j0 .iadd, j0 (.aload 0), j3 (.getfield 14) 6 0 0, j1 (.if_icmp .lt 0) 10, j0 .return_, j0 (.iload 1), j0 (.aload 0), j3 (.getfield 1) 6 0 0, j1 (.if_icmp .lt 0) 26, j0 (.aload 0), j0 (.iload 2)],
  [j3 (.putfield 14) 6 0 0, j0 (.aload 0), j3 (.getfield 11) 6 1 1, j0 (.iconst 0), j0 (.aload 0), j3 (.getfield 15) 6 1 1, j0 (.iconst 0), j0 (.iconst 6), j0 (.invokedynamic 0), j0 .return_, j0 (.aload 0), j0 (.iload 1), j3 (.invokestatic 124) 2 1 7, j0 (.istore 3), j0 (.aload 0), j0 (.iload 1)],
  [j3 (.invokestatic 126) 2 1 7, j1 (.ifCond .ne 0) 39, j0 (.aload 0), j0 (.iload 1), j0 (.iload 3), j3 (.invokestatic 136) 3 1 7, j0 (.istore 3), j0 (.iconst 0), j0 (.istore 4), j0 (.iload 4), j0 (.aload 0), j3 (.getfield 0) 6 0 0, j1 (.if_icmp .ge 0) 73, j0 (.iload 3), j0 (.iload 4), j0 .ishr],
  [j0 (.iconst 1), j0 .iand, j1 (.ifCond .eq 0) 71, j0 (.aload 0), j0 (.iload 1), j0 (.iload 4), j3 (.invokestatic 127) 3 1 7, j1 (.ifCond .eq 0) 71, j0 (.aload 0), j0 (.iload 1), j0 (.iconst 1), j0 .iadd, j0 (.iload 2), j0 (.aload 0), j3 (.getfield 12) 6 1 1, j0 (.iload 1)],
  [j0 (.iconst 7), j0 .imul, j0 (.iload 4), j0 .iadd, j0 .iaload, j0 .iadd, j3 (.invokestatic 135) 3 0 7, j0 (.iinc 4 1), j1 (.goto 0) 41, j0 .return_]]
/-- 136 WhoSigns$Finder.firstCheapest(II)I -/
def mj_k136 : List (List mj_Ins) := [[j0 (.iconst 1000000), j0 (.istore 3), j0 (.iconst 0), j0 (.istore 4), j0 (.iconst 0), j0 (.istore 5), j0 (.iload 5), j0 (.aload 0), j3 (.getfield 0) 6 0 0, j1 (.if_icmp .ge 0) 36, j0 (.aload 0), j3 (.getfield 12) 6 1 1, j0 (.iload 1), j0 (.iconst 7), j0 .imul, j0 (.iload 5)],
  [j0 .iadd, j0 .iaload, j0 (.istore 6), j0 (.iload 2), j0 (.iload 5), j0 .ishr, j0 (.iconst 1), j0 .iand, j1 (.ifCond .eq 0) 34, j0 (.iload 6), j0 (.iload 3), j1 (.if_icmp .ge 0) 34, j0 (.iload 6), j0 (.istore 3), j0 (.iconst 1), j0 (.iload 5)],
  [j0 .ishl, j0 (.istore 4), j0 (.iinc 5 1), j1 (.goto 0) 6, j0 (.iload 4), j1 .ireturn 0]]
/-- 137 WhoSigns$Finder.foundCost()I -/
def mj_k137 : List (List mj_Ins) := [[j0 (.iconst 0), j0 (.istore 1), j0 (.iconst 0), j0 (.istore 2), j0 (.iload 2), j0 (.aload 0), j3 (.getfield 1) 6 0 0, j1 (.if_icmp .ge 0) 24, j0 (.iload 1), j0 (.aload 0), j3 (.getfield 12) 6 1 1, j0 (.iload 2), j0 (.iconst 7), j0 .imul, j0 (.aload 0), j3 (.getfield 15) 6 1 1],
  [j0 (.iload 2), j0 .iaload, j0 .iadd, j0 .iaload, j0 .iadd, j0 (.istore 1), j0 (.iinc 2 1), j1 (.goto 0) 4, j0 (.iload 1), j1 .ireturn 0]]
/-- 138 WhoSigns.must(I)I -/
def mj_k138 : List (List mj_Ins) := [[j0 (.aload 0), j3 (.getfield 0) 0 1 1, j0 (.iload 1), j3 (.invokestatic 16) 2 1 2, j1 (.ifCond .ne 0) 7, j0 (.iconst (-1000000001)), j1 .ireturn 0, j0 (.aload 0), j3 (.getfield 3) 0 1 1, j0 (.aload 0), j3 (.getfield 0) 0 1 1, j0 (.aload 0), j3 (.getfield 0) 0 1 1, j3 (.getfield 13) 1 0 0, j3 (.invokestatic 115) 3 1 7, j0 .pop],
  [j0 (.aload 0), j3 (.getfield 3) 0 1 1, j0 (.iconst 0), j3 (.invokestatic 131) 2 1 7, j1 (.ifCond .ne 0) 23, j0 (.iconst 0), j1 .ireturn 0, j0 (.aload 0), j3 (.getfield 3) 0 1 1, j0 (.iload 1), j3 (.invokestatic 139) 2 1 7, j1 (.ifCond .ne 0) 30, j0 (.iconst 2), j1 .ireturn 0, j0 (.aload 0), j3 (.getfield 3) 0 1 1],
  [j0 (.iload 1), j3 (.invokestatic 140) 2 1 7, j1 (.ifCond .le 0) 37, j0 (.iconst 1), j1 (.goto 0) 38, j0 (.iconst 0), j3 (.invokestatic 18) 1 1 0, j1 .ireturn 0]]
/-- 139 WhoSigns$Finder.isAnyWithout(I)Z -/
def mj_k139 : List (List mj_Ins) := [[j0 (.aload 0), j0 (.iconst 1), j0 (.iload 1), j0 .ishl, j0 (.iconst 1), j0 (.iload 1), j0 .ishl, j3 (.invokestatic 121) 3 0 7, j0 (.aload 0), j0 (.iconst 0), j3 (.invokestatic 132) 2 1 7, j1 .ireturn 1]]
/-- 140 WhoSigns$Finder.mostBy(I)I -/
def mj_k140 : List (List mj_Ins) := [[j0 (.iconst 0), j0 (.istore 2), j0 (.iconst 1), j0 (.aload 0), j3 (.getfield 1) 6 0 0, j0 .ishl, j0 (.istore 3), j0 (.iconst 1), j0 (.istore 4), j0 (.iload 4), j0 (.iload 3), j1 (.if_icmp .ge 0) 29, j0 (.iload 4), j3 (.invokestatic 38) 1 1 0, j0 (.iload 2), j1 (.if_icmp .le 0) 27],
  [j0 (.aload 0), j0 (.iload 4), j0 (.iload 1), j3 (.invokestatic 141) 3 0 7, j0 (.aload 0), j0 (.iconst 0), j3 (.invokestatic 132) 2 1 7, j1 (.ifCond .eq 0) 27, j0 (.iload 4), j3 (.invokestatic 38) 1 1 0, j0 (.istore 2), j0 (.iinc 4 1), j1 (.goto 0) 9, j0 (.iload 2), j1 .ireturn 0]]
/-- 141 WhoSigns$Finder.leaveTo(II)V -/
def mj_k141 : List (List mj_Ins) := [[j0 (.iconst 0), j0 (.istore 3), j0 (.iload 3), j0 (.aload 0), j3 (.getfield 1) 6 0 0, j1 (.if_icmp .ge 0) 31, j0 (.aload 0), j3 (.getfield 4) 6 1 1, j0 (.iload 3), j0 (.iload 1), j0 (.iload 3), j0 .ishr, j0 (.iconst 1), j0 .iand, j1 (.ifCond .eq 0) 24, j0 (.aload 0)],
  [j3 (.getfield 3) 6 1 1, j0 (.iload 3), j0 .iaload, j0 (.iconst 1), j0 (.iload 2), j0 .ishl, j0 .iand, j1 (.goto 0) 28, j0 (.aload 0), j3 (.getfield 3) 6 1 1, j0 (.iload 3), j0 .iaload, j0 .iastore, j0 (.iinc 3 1), j1 (.goto 0) 2, j0 .return_]]
/-- 142 WhoSigns.sly(I)I -/
def mj_k142 : List (List mj_Ins) := [[j0 (.aload 0), j3 (.getfield 0) 0 1 1, j0 (.iload 1), j3 (.invokestatic 16) 2 1 2, j1 (.ifCond .ne 0) 7, j0 (.iconst (-1000000001)), j1 .ireturn 0, j0 (.aload 0), j3 (.getfield 3) 0 1 1, j0 (.aload 0), j3 (.getfield 0) 0 1 1, j0 (.aload 0), j3 (.getfield 0) 0 1 1, j3 (.getfield 13) 1 0 0, j3 (.invokestatic 115) 3 1 7, j0 .pop],
  [j0 (.aload 0), j3 (.getfield 3) 0 1 1, j0 (.iconst 0), j3 (.invokestatic 131) 2 1 7, j1 (.ifCond .eq 0) 26, j0 (.aload 0), j3 (.getfield 3) 0 1 1, j0 (.iload 1), j3 (.invokestatic 140) 2 1 7, j1 (.goto 0) 27, j0 (.iconst (-1000000005)), j1 .ireturn 0]]
/-- 143 WhoSigns.missing()I -/
def mj_k143 : List (List mj_Ins) := [[j0 (.aload 0), j3 (.getfield 3) 0 1 1, j0 (.aload 0), j3 (.getfield 0) 0 1 1, j0 (.aload 0), j3 (.getfield 0) 0 1 1, j3 (.getfield 13) 1 0 0, j3 (.invokestatic 115) 3 1 7, j0 .pop, j0 (.aload 0), j3 (.getfield 3) 0 1 1, j0 (.iconst 0), j3 (.invokestatic 131) 2 1 7, j1 (.ifCond .ne 0) 16, j0 (.iconst (-1000000002)), j1 .ireturn 0],
  [j0 (.iconst 1), j0 (.istore 1), j0 (.iload 1), j0 (.aload 0), j3 (.getfield 0) 0 1 1, j3 (.getfield 1) 1 0 0, j1 (.if_icmp .gt 0) 34, j0 (.aload 0), j3 (.getfield 3) 0 1 1, j0 (.iload 1), j3 (.invokestatic 144) 2 1 7, j0 (.istore 2), j0 (.iload 2), j1 (.ifCond .lt 0) 32, j0 (.iload 2), j1 .ireturn 0],
  [j0 (.iinc 1 1), j1 (.goto 0) 18, j0 (.iconst (-1000000005)), j1 .ireturn 0]]
/-- 144 WhoSigns$Finder.firstBreaking(I)I -/
def mj_k144 : List (List mj_Ins) := [[j0 (.iconst 1), j0 (.aload 0), j3 (.getfield 0) 6 0 0, j0 .ishl, j0 (.istore 2), j0 (.iconst 0), j0 (.istore 3), j0 (.iload 3), j0 (.iload 2), j1 (.if_icmp .ge 0) 22, j0 (.iload 3), j3 (.invokestatic 38) 1 1 0, j0 (.iload 1), j1 (.if_icmp .ne 0) 20, j0 (.aload 0), j0 (.iload 3)],
  [j3 (.invokestatic 131) 2 1 7, j1 (.ifCond .ne 0) 20, j0 (.iload 3), j1 .ireturn 0, j0 (.iinc 3 1), j1 (.goto 0) 7, j0 (.iconst (-1)), j1 .ireturn 0]]
/-- 145 WhoSigns.bears(I)I -/
def mj_k145 : List (List mj_Ins) := [[j0 (.iload 1), j0 (.iconst 0), j0 (.aload 0), j3 (.getfield 0) 0 1 1, j3 (.getfield 1) 1 0 0, j3 (.invokestatic 13) 3 1 0, j1 (.ifCond .ne 0) 9, j0 (.iconst (-1000000001)), j1 .ireturn 0, j0 (.aload 0), j3 (.getfield 3) 0 1 1, j0 (.aload 0), j3 (.getfield 0) 0 1 1, j0 (.aload 0), j3 (.getfield 0) 0 1 1, j3 (.getfield 13) 1 0 0],
  [j3 (.invokestatic 115) 3 1 7, j0 .pop, j0 (.aload 0), j3 (.getfield 3) 0 1 1, j0 (.iload 1), j3 (.invokestatic 144) 2 1 7, j1 (.ifCond .ge 0) 25, j0 (.iconst 1), j1 (.goto 0) 26, j0 (.iconst 0), j3 (.invokestatic 18) 1 1 0, j1 .ireturn 0]]
/-- 146 WhoSigns.offer(II)I -/
def mj_k146 : List (List mj_Ins) := [[j0 (.aload 0), j3 (.getfield 0) 0 1 1, j0 (.iload 1), j3 (.invokestatic 16) 2 1 2, j1 (.ifCond .eq 0) 10, j0 (.iload 2), j0 (.iconst 0), j0 (.iconst 7), j3 (.invokestatic 13) 3 1 0, j1 (.ifCond .ne 0) 12, j0 (.iconst (-1000000001)), j1 .ireturn 0, j0 (.aload 0), j3 (.getfield 0) 0 1 1, j3 (.getfield 11) 1 0 0, j0 (.iconst 6)],
  [j1 (.if_icmp .lt 0) 19, j0 (.iconst (-1000000003)), j1 .ireturn 0, j0 (.aload 0), j3 (.getfield 0) 0 1 1, j3 (.getfield 9) 1 1 1, j0 (.aload 0), j3 (.getfield 0) 0 1 1, j3 (.getfield 11) 1 0 0, j0 (.iload 1), j0 .iastore, j0 (.aload 0), j3 (.getfield 0) 0 1 1, j3 (.getfield 10) 1 1 1, j0 (.aload 0), j3 (.getfield 0) 0 1 1],
  [j3 (.getfield 11) 1 0 0, j0 (.iload 2), j0 .iastore, j0 (.aload 0), j3 (.getfield 0) 0 1 1, j0 .dup, j3 (.getfield 11) 1 0 0, j0 (.iconst 1), j0 .iadd, j3 (.putfield 11) 1 0 0, j0 (.aload 0), j3 (.getfield 0) 0 1 1, j3 (.getfield 11) 1 0 0, j0 (.iconst 1), j0 .isub, j1 .ireturn 0]]
/-- 147 WhoSigns.clear()I -/
def mj_k147 : List (List mj_Ins) := [[j0 (.aload 0), j3 (.getfield 0) 0 1 1, j3 (.getfield 11) 1 0 0, j0 (.istore 1), j0 (.aload 0), j3 (.getfield 0) 0 1 1, j0 (.iconst 0), j3 (.putfield 11) 1 0 0, j0 (.iload 1), j1 .ireturn 0]]
/-- 148 WhoSigns.teach()I -/
def mj_k148 : List (List mj_Ins) := [[j0 (.aload 0), j3 (.getfield 0) 0 1 1, j3 (.getfield 1) 1 0 0, j1 (.ifCond .ne 0) 6, j0 (.iconst 0), j1 .ireturn 0, j0 (.iconst 1), j0 (.aload 0), j3 (.getfield 0) 0 1 1, j3 (.getfield 11) 1 0 0, j0 .ishl, j0 (.istore 1), j0 (.aload 0), j0 (.iload 1), j0 (.iconst 1), j0 .isub],
  [j3 (.invokestatic 149) 2 1 1, j1 (.ifCond .ne 0) 20, j0 (.iconst (-1000000005)), j1 .ireturn 0, j0 (.iconst 0), j0 (.istore 2), j0 (.iload 2), j0 (.aload 0), j3 (.getfield 0) 0 1 1, j3 (.getfield 11) 1 0 0, j1 (.if_icmp .gt 0) 46, j0 (.iconst 0), j0 (.istore 3), j0 (.iload 3), j0 (.iload 1), j1 (.if_icmp .ge 0) 44],
  [j0 (.iload 3), j3 (.invokestatic 38) 1 1 0, j0 (.iload 2), j1 (.if_icmp .ne 0) 42, j0 (.aload 0), j0 (.iload 3), j3 (.invokestatic 149) 2 1 1, j1 (.ifCond .eq 0) 42, j0 (.iload 3), j1 .ireturn 0, j0 (.iinc 3 1), j1 (.goto 0) 29, j0 (.iinc 2 1), j1 (.goto 0) 22, j0 (.iconst (-1000000005)), j1 .ireturn 0]]
/-- 149 WhoSigns.isTaughtEnough(I)Z -/
def mj_k149 : List (List mj_Ins) := [[j0 (.iconst 0), j0 (.istore 2), j0 (.iload 2), j0 (.aload 0), j3 (.getfield 0) 0 1 1, j3 (.getfield 1) 1 0 0, j1 (.if_icmp .ge 0) 19, j0 (.aload 0), j3 (.getfield 10) 0 1 1, j0 (.iload 2), j0 (.aload 0), j3 (.getfield 0) 0 1 1, j3 (.getfield 0) 1 1 1, j0 (.iload 2), j0 .aaload, j3 (.getfield 3) 3 0 0],
  [j0 .iastore, j0 (.iinc 2 1), j1 (.goto 0) 2, j0 (.iconst 0), j0 (.istore 2), j0 (.iload 2), j0 (.aload 0), j3 (.getfield 0) 0 1 1, j3 (.getfield 11) 1 0 0, j1 (.if_icmp .ge 0) 51, j0 (.iload 1), j0 (.iload 2), j0 .ishr, j0 (.iconst 1), j0 .iand, j1 (.ifCond .eq 0) 49],
  [j0 (.aload 0), j3 (.getfield 0) 0 1 1, j3 (.getfield 0) 1 1 1, j0 (.aload 0), j3 (.getfield 0) 0 1 1, j3 (.getfield 9) 1 1 1, j0 (.iload 2), j0 .iaload, j0 .aaload, j0 (.aload 0), j3 (.getfield 0) 0 1 1, j3 (.getfield 10) 1 1 1, j0 (.iload 2), j0 .iaload, j0 (.iconst 1), j3 (.invokestatic 26) 3 1 4],
  [j0 .pop, j0 (.iinc 2 1), j1 (.goto 0) 21, j0 (.aload 0), j3 (.getfield 3) 0 1 1, j0 (.aload 0), j3 (.getfield 0) 0 1 1, j0 (.aload 0), j3 (.getfield 0) 0 1 1, j3 (.getfield 13) 1 0 0, j3 (.invokestatic 115) 3 1 7, j0 .pop, j0 (.iconst 0), j0 (.istore 2), j0 (.iload 2), j0 (.aload 0)],
  [j3 (.getfield 0) 0 1 1, j3 (.getfield 1) 1 0 0, j1 (.if_icmp .ge 0) 79, j0 (.aload 0), j3 (.getfield 0) 0 1 1, j3 (.getfield 0) 1 1 1, j0 (.iload 2), j0 .aaload, j0 (.aload 0), j3 (.getfield 10) 0 1 1, j0 (.iload 2), j0 .iaload, j3 (.putfield 3) 3 0 0, j0 (.iinc 2 1), j1 (.goto 0) 62, j0 (.aload 0)],
  [j3 (.getfield 3) 0 1 1, j0 (.iconst 1), j3 (.invokestatic 144) 2 1 7, j1 (.ifCond .ge 0) 86, j0 (.iconst 1), j1 (.goto 0) 87, j0 (.iconst 0), j1 .ireturn 1]]
/-- 150 WhoSigns.soon()I -/
def mj_k150 : List (List mj_Ins) := [[j0 (.aload 0), j3 (.getfield 0) 0 1 1, j3 (.getfield 13) 1 0 0, j0 (.iconst 59), j0 .iadd, j0 (.iconst 999), j0 .dmul, j0 (.istore 1), j0 (.aload 0), j3 (.getfield 0) 0 1 1, j3 (.getfield 13) 1 0 0, j0 (.istore 2), j0 (.iload 2), j0 (.iload 1), j1 (.if_icmp .gt 0) 38, j0 (.aload 0)],
  [j3 (.getfield 3) 0 1 1, j0 (.aload 0), j3 (.getfield 0) 0 1 1, j0 (.iload 2), j3 (.invokestatic 115) 3 1 7, j0 (.istore 3), j0 (.iload 2), j0 (.aload 0), j3 (.getfield 0) 0 1 1, j3 (.getfield 13) 1 0 0, j1 (.if_icmp .eq 0) 29, j0 (.iload 3), j1 (.ifCond .ne 0) 36, j0 (.aload 0), j3 (.getfield 3) 0 1 1, j0 (.iconst 0)],
  [j3 (.invokestatic 131) 2 1 7, j1 (.ifCond .eq 0) 36, j0 (.iload 2), j1 .ireturn 0, j0 (.iinc 2 1), j1 (.goto 0) 12, j0 (.iconst (-1000000005)), j1 .ireturn 0]]
/-- 151 WhoSigns.sign(II)I -/
def mj_k151 : List (List mj_Ins) := [[j0 (.aload 0), j3 (.getfield 0) 0 1 1, j0 (.iload 1), j3 (.invokestatic 33) 2 1 2, j1 (.ifCond .eq 0) 10, j0 (.aload 0), j3 (.getfield 0) 0 1 1, j0 (.iload 2), j3 (.invokestatic 16) 2 1 2, j1 (.ifCond .ne 0) 12, j0 (.iconst (-1000000001)), j1 .ireturn 0, j0 (.aload 0), j3 (.getfield 0) 0 1 1, j3 (.getfield 2) 1 1 1, j0 (.iload 1)],
  [j0 .aaload, j0 (.astore 3), j0 (.aload 3), j3 (.getfield 3) 4 0 0, j1 (.ifCond .ge 0) 30, j0 (.aload 0), j3 (.getfield 0) 0 1 1, j0 (.iload 2), j0 (.iload 1), j0 (.aload 0), j3 (.getfield 0) 0 1 1, j3 (.getfield 13) 1 0 0, j3 (.invokestatic 35) 4 1 2, j1 (.ifCond .ne 0) 32, j0 (.iconst (-1000000002)), j1 .ireturn 0],
  [j0 (.aload 0), j3 (.getfield 0) 0 1 1, j3 (.invokestatic 51) 1 1 2, j0 (.astore 4), j0 (.aload 4), j0 (.iload 1), j0 (.iload 2), j0 .iastore, j0 (.aload 0), j3 (.getfield 0) 0 1 1, j0 (.aload 4), j3 (.invokestatic 152) 2 1 2, j1 (.ifCond .lt 0) 47, j0 (.iconst (-1000000002)), j1 .ireturn 0, j0 (.aload 3)],
  [j0 (.iload 2), j3 (.putfield 3) 4 0 0, j0 (.aload 0), j3 (.getfield 0) 0 1 1, j3 (.getfield 12) 1 1 1, j0 (.aload 0), j3 (.getfield 0) 0 1 1, j3 (.getfield 13) 1 0 0, j0 (.iload 1), j0 (.iload 2), j3 (.invokestatic 153) 4 0 3, j0 (.aload 0), j3 (.getfield 0) 0 1 1, j3 (.invokestatic 155) 1 1 2, j1 .ireturn 0]]
/-- 152 WhoSigns$Book.firstBroken([I)I -/
def mj_k152 : List (List mj_Ins) := [[j0 (.iconst 0), j0 (.istore 2), j0 (.iload 2), j0 (.aload 0), j3 (.getfield 5) 1 0 0, j1 (.if_icmp .ge 0) 19, j0 (.aload 0), j3 (.getfield 4) 1 1 1, j0 (.iload 2), j0 .aaload, j0 (.aload 0), j3 (.getfield 0) 1 1 1, j0 (.aload 1), j3 (.invokestatic 54) 3 1 6, j1 (.ifCond .ne 0) 17, j0 (.iload 2)],
  [j1 .ireturn 0, j0 (.iinc 2 1), j1 (.goto 0) 2, j0 (.iconst (-1)), j1 .ireturn 0]]
/-- 153 WhoSigns$Log.append(III)V -/
def mj_k153 : List (List mj_Ins) := [[j0 (.aload 0), j3 (.getfield 3) 2 0 0, j0 (.iconst 30), j1 (.if_icmp .lt 0) 16, j0 (.aload 0), j3 (.getfield 0) 2 1 1, j3 (.invokestatic 154) 1 0 0, j0 (.aload 0), j3 (.getfield 1) 2 1 1, j3 (.invokestatic 154) 1 0 0, j0 (.aload 0), j3 (.getfield 2) 2 1 1, j3 (.invokestatic 154) 1 0 0, j0 (.aload 0), j0 (.iconst 29), j3 (.putfield 3) 2 0 0],
  [j0 (.aload 0), j3 (.getfield 0) 2 1 1, j0 (.aload 0), j3 (.getfield 3) 2 0 0, j0 (.iload 1), j0 .iastore, j0 (.aload 0), j3 (.getfield 1) 2 1 1, j0 (.aload 0), j3 (.getfield 3) 2 0 0, j0 (.iload 2), j0 .iastore, j0 (.aload 0), j3 (.getfield 2) 2 1 1, j0 (.aload 0), j3 (.getfield 3) 2 0 0],
  [j0 (.iload 3), j0 .iastore, j0 (.aload 0), j0 .dup, j3 (.getfield 3) 2 0 0, j0 (.iconst 1), j0 .iadd, j3 (.putfield 3) 2 0 0, j0 .return_]]
/-- 154 WhoSigns$Log.removeFirst([I)V -/
def mj_k154 : List (List mj_Ins) := [[j0 (.aload 0), j0 (.iconst 1), j0 (.aload 0), j0 (.iconst 0), j0 (.iconst 29), j0 (.invokedynamic 0), j0 .return_]]
/-- 155 WhoSigns$Book.countSigned()I -/
def mj_k155 : List (List mj_Ins) := [[j0 (.iconst 0), j0 (.istore 1), j0 (.iconst 0), j0 (.istore 2), j0 (.iload 2), j0 (.aload 0), j3 (.getfield 3) 1 0 0, j1 (.if_icmp .ge 0) 23, j0 (.iload 1), j0 (.aload 0), j3 (.getfield 2) 1 1 1, j0 (.iload 2), j0 .aaload, j3 (.getfield 3) 4 0 0, j1 (.ifCond .lt 0) 17, j0 (.iconst 1)],
  [j1 (.goto 0) 18, j0 (.iconst 0), j3 (.invokestatic 18) 1 1 0, j0 .iadd, j0 (.istore 1), j0 (.iinc 2 1), j1 (.goto 0) 4, j0 (.iload 1), j1 .ireturn 0]]
/-- 156 WhoSigns.over()I -/
def mj_k156 : List (List mj_Ins) := [[j0 (.aload 0), j3 (.getfield 0) 0 1 1, j3 (.invokestatic 155) 1 1 2, j0 (.istore 1), j0 (.iconst 0), j0 (.istore 2), j0 (.iload 2), j0 (.aload 0), j3 (.getfield 0) 0 1 1, j3 (.getfield 3) 1 0 0, j1 (.if_icmp .ge 0) 20, j0 (.aload 0), j3 (.getfield 0) 0 1 1, j3 (.getfield 2) 1 1 1, j0 (.iload 2), j0 .aaload],
  [j0 (.iconst (-1)), j3 (.putfield 3) 4 0 0, j0 (.iinc 2 1), j1 (.goto 0) 6, j0 (.iload 1), j1 .ireturn 0]]
/-- 157 WhoSigns.judge()I -/
def mj_k157 : List (List mj_Ins) := [[j0 (.aload 0), j3 (.getfield 0) 0 1 1, j0 (.aload 0), j3 (.getfield 0) 0 1 1, j3 (.invokestatic 51) 1 1 2, j3 (.invokestatic 152) 2 1 2, j0 (.istore 1), j0 (.iload 1), j1 (.ifCond .ge 0) 11, j0 (.iconst (-1000000005)), j1 (.goto 0) 12, j0 (.iload 1), j1 .ireturn 0]]
/-- 158 WhoSigns.queue(I)I -/
def mj_k158 : List (List mj_Ins) := [[j0 (.iload 1), j0 (.iconst (-1)), j0 (.aload 0), j3 (.getfield 0) 0 1 1, j3 (.getfield 3) 1 0 0, j0 (.iconst 1), j0 .isub, j3 (.invokestatic 13) 3 1 0, j1 (.ifCond .ne 0) 11, j0 (.iconst (-1000000001)), j1 .ireturn 0, j0 (.aload 0), j3 (.getfield 4) 0 1 1, j0 (.aload 0), j3 (.getfield 0) 0 1 1, j3 (.invokestatic 159) 2 1 8],
  [j0 (.astore 2), j0 (.iload 1), j1 (.ifCond .lt 0) 29, j0 (.aload 2), j0 (.iload 1), j0 .iaload, j1 (.ifCond .ge 0) 25, j0 (.iconst (-1000000005)), j1 (.goto 0) 28, j0 (.aload 2), j0 (.iload 1), j0 .iaload, j1 .ireturn 0, j0 (.iconst 0), j0 (.istore 3), j0 (.iconst 0)],
  [j0 (.istore 4), j0 (.iload 4), j0 (.aload 0), j3 (.getfield 0) 0 1 1, j3 (.getfield 3) 1 0 0, j1 (.if_icmp .ge 0) 51, j0 (.iload 3), j0 (.aload 2), j0 (.iload 4), j0 .iaload, j1 (.ifCond .lt 0) 45, j0 (.iconst 1), j1 (.goto 0) 46, j0 (.iconst 0), j3 (.invokestatic 18) 1 1 0, j0 .iadd],
  [j0 (.istore 3), j0 (.iinc 4 1), j1 (.goto 0) 33, j0 (.iload 3), j1 .ireturn 0]]
/-- 159 WhoSigns$Turnout.turnUp(LWhoSigns$Book;)[I -/
def mj_k159 : List (List mj_Ins) := [[j0 (.aload 0), j0 (.aload 1), j3 (.invokestatic 160) 2 0 8, j0 (.aload 1), j3 (.invokestatic 51) 1 1 2, j0 (.astore 2), j0 (.iconst 1), j0 (.istore 3), j0 (.iconst 0), j0 (.istore 4), j0 (.iload 4), j0 (.iconst 6), j1 (.if_icmp .gt 0) 41, j0 (.iload 3), j1 (.ifCond .eq 0) 41, j0 (.iconst 0)],
  [j0 (.istore 3), j0 (.iconst 0), j0 (.istore 5), j0 (.iload 5), j0 (.aload 0), j3 (.getfield 2) 7 0 0, j1 (.if_icmp .ge 0) 39, j0 (.aload 1), j0 (.aload 0), j3 (.getfield 0) 7 1 1, j0 (.iload 5), j0 .iaload, j0 (.aload 2), j3 (.invokestatic 162) 3 1 0, j1 (.ifCond .ne 0) 33, j0 (.iload 3)],
  [j1 (.ifCond .eq 0) 35, j0 (.iconst 1), j1 (.goto 0) 36, j0 (.iconst 0), j0 (.istore 3), j0 (.iinc 5 1), j1 (.goto 0) 19, j0 (.iinc 4 1), j1 (.goto 0) 10, j0 (.aload 2), j1 .ireturn 4]]
/-- 160 WhoSigns$Turnout.lineUp(LWhoSigns$Book;)V -/
def mj_k160 : List (List mj_Ins) := [[j0 (.aload 0), j0 (.iconst 0), j3 (.putfield 2) 7 0 0, j0 (.iconst 0), j0 (.istore 2), j0 (.iload 2), j0 (.aload 1), j3 (.getfield 1) 1 0 0, j1 (.if_icmp .ge 0) 25, j0 (.aload 1), j3 (.getfield 0) 1 1 1, j0 (.iload 2), j0 .aaload, j0 (.aload 1), j3 (.getfield 13) 1 0 0, j3 (.invokestatic 17) 2 1 4],
  [j1 (.ifCond .ne 0) 23, j0 (.aload 0), j0 (.iload 2), j0 (.aload 1), j0 (.iload 2), j3 (.invokestatic 19) 2 1 2, j3 (.invokestatic 161) 3 0 8, j0 (.iinc 2 1), j1 (.goto 0) 5, j0 .return_]]
/-- 161 WhoSigns$Turnout.putInLine(II)V -/
def mj_k161 : List (List mj_Ins) := [[j0 (.aload 0), j3 (.getfield 2) 7 0 0, j0 (.istore 3), j0 (.iload 3), j1 (.ifCond .le 0) 35, j0 (.aload 0), j3 (.getfield 1) 7 1 1, j0 (.iload 3), j0 (.iconst 1), j0 .isub, j0 .iaload, j0 (.iload 2), j1 (.if_icmp .le 0) 35, j0 (.aload 0), j3 (.getfield 1) 7 1 1, j0 (.iload 3)],
  [j0 (.aload 0), j3 (.getfield 1) 7 1 1, j0 (.iload 3), j0 (.iconst 1), j0 .isub, j0 .iaload, j0 .iastore, j0 (.aload 0), j3 (.getfield 0) 7 1 1, j0 (.iload 3), j0 (.aload 0), j3 (.getfield 0) 7 1 1, j0 (.iload 3), j0 (.iconst 1), j0 .isub, j0 .iaload],
  [j0 .iastore, j0 (.iinc 3 (-1)), j1 (.goto 0) 3, j0 (.aload 0), j3 (.getfield 1) 7 1 1, j0 (.iload 3), j0 (.iload 2), j0 .iastore, j0 (.aload 0), j3 (.getfield 0) 7 1 1, j0 (.iload 3), j0 (.iload 1), j0 .iastore, j0 (.aload 0), j0 .dup, j3 (.getfield 2) 7 0 0],
  [j0 (.iconst 1), j0 .iadd, j3 (.putfield 2) 7 0 0, j0 .return_]]
/-- 162 WhoSigns$Turnout.takeOne(LWhoSigns$Book;I[I)Z -/
def mj_k162 : List (List mj_Ins) := [[j0 (.iconst 0), j0 (.istore 3), j0 (.iload 3), j0 (.aload 0), j3 (.getfield 3) 1 0 0, j1 (.if_icmp .ge 0) 33, j0 (.aload 2), j0 (.iload 3), j0 .iaload, j1 (.ifCond .ge 0) 31, j0 (.aload 0), j0 (.iload 1), j0 (.iload 3), j0 (.aload 0), j3 (.getfield 13) 1 0 0, j3 (.invokestatic 35) 4 1 2],
  [j1 (.ifCond .eq 0) 31, j0 (.aload 2), j0 (.iload 3), j0 (.iload 1), j0 .iastore, j0 (.aload 0), j0 (.aload 2), j3 (.invokestatic 152) 2 1 2, j1 (.ifCond .ge 0) 27, j0 (.iconst 1), j1 .ireturn 1, j0 (.aload 2), j0 (.iload 3), j0 (.iconst (-1)), j0 .iastore, j0 (.iinc 3 1)],
  [j1 (.goto 0) 2, j0 (.iconst 0), j1 .ireturn 1]]
/-- 163 WhoSigns.log(II)I -/
def mj_k163 : List (List mj_Ins) := [[j0 (.iload 1), j1 (.ifCond .lt 0) 7, j0 (.iload 2), j0 (.iconst 0), j0 (.iconst 2), j3 (.invokestatic 13) 3 1 0, j1 (.ifCond .ne 0) 9, j0 (.iconst (-1000000001)), j1 .ireturn 0, j0 (.aload 0), j3 (.getfield 0) 0 1 1, j3 (.getfield 12) 1 1 1, j0 (.astore 3), j0 (.iload 1), j0 (.aload 3), j3 (.getfield 3) 2 0 0],
  [j1 (.if_icmp .lt 0) 19, j0 (.iconst (-1000000005)), j1 .ireturn 0, j0 (.iload 2), j1 (.ifCond .ne 0) 26, j0 (.aload 3), j3 (.getfield 0) 2 1 1, j0 (.iload 1), j0 .iaload, j1 .ireturn 0, j0 (.iload 2), j0 (.iconst 1), j1 (.if_icmp .ne 0) 34, j0 (.aload 3), j3 (.getfield 1) 2 1 1, j0 (.iload 1)],
  [j0 .iaload, j1 (.goto 0) 38, j0 (.aload 3), j3 (.getfield 2) 2 1 1, j0 (.iload 1), j0 .iaload, j1 .ireturn 0]]
/-- 164 WhoSigns.audit(I)I -/
def mj_k164 : List (List mj_Ins) := [[j0 (.iload 1), j0 (.iconst (-1)), j1 (.if_icmp .ge 0) 5, j0 (.iconst (-1000000001)), j1 .ireturn 0, j0 (.iconst 0), j0 (.istore 2), j0 (.iconst 0), j0 (.istore 3), j0 (.iload 3), j0 (.aload 0), j3 (.getfield 0) 0 1 1, j3 (.getfield 12) 1 1 1, j3 (.getfield 3) 2 0 0, j1 (.if_icmp .ge 0) 42, j0 (.aload 0)],
  [j3 (.getfield 0) 0 1 1, j0 (.aload 0), j3 (.getfield 0) 0 1 1, j3 (.getfield 12) 1 1 1, j3 (.getfield 2) 2 1 1, j0 (.iload 3), j0 .iaload, j0 (.aload 0), j3 (.getfield 0) 0 1 1, j3 (.getfield 12) 1 1 1, j3 (.getfield 1) 2 1 1, j0 (.iload 3), j0 .iaload, j0 (.aload 0), j3 (.getfield 0) 0 1 1, j3 (.getfield 13) 1 0 0],
  [j3 (.invokestatic 35) 4 1 2, j1 (.ifCond .ne 0) 40, j0 (.iload 2), j0 (.iload 1), j1 (.if_icmp .ne 0) 39, j0 (.iload 3), j1 .ireturn 0, j0 (.iinc 2 1), j0 (.iinc 3 1), j1 (.goto 0) 9, j0 (.iload 1), j1 (.ifCond .ge 0) 46, j0 (.iload 2), j1 (.goto 0) 47, j0 (.iconst (-1000000005)), j1 .ireturn 0]]
/-- 165 WhoSigns.seed(I)I -/
def mj_k165 : List (List mj_Ins) := [[j0 (.aload 0), j3 (.getfield 0) 0 1 1, j3 (.getfield 14) 1 0 0, j0 (.istore 2), j0 (.aload 0), j3 (.getfield 0) 0 1 1, j0 (.iload 1), j3 (.putfield 14) 1 0 0, j0 (.iload 2), j1 .ireturn 0]]
/-- 166 WhoSigns.luck(I)I -/
def mj_k166 : List (List mj_Ins) := [[j0 (.iload 1), j0 (.iconst 1), j0 (.iconst 60), j3 (.invokestatic 13) 3 1 0, j1 (.ifCond .ne 0) 7, j0 (.iconst (-1000000001)), j1 .ireturn 0, j0 (.aload 0), j3 (.getfield 3) 0 1 1, j0 (.aload 0), j3 (.getfield 0) 0 1 1, j0 (.aload 0), j3 (.getfield 0) 0 1 1, j3 (.getfield 13) 1 0 0, j3 (.invokestatic 115) 3 1 7, j0 .pop],
  [j0 (.aload 0), j3 (.getfield 3) 0 1 1, j0 (.iconst 0), j3 (.invokestatic 131) 2 1 7, j0 (.istore 2), j0 (.iconst 0), j0 (.istore 3), j0 (.iconst 0), j0 (.istore 4), j0 (.iload 4), j0 (.iload 1), j1 (.if_icmp .ge 0) 48, j0 (.aload 0), j3 (.getfield 0) 0 1 1, j3 (.invokestatic 167) 1 1 2, j0 (.istore 5)],
  [j0 (.iload 3), j0 (.iload 2), j1 (.ifCond .eq 0) 42, j0 (.aload 0), j3 (.getfield 3) 0 1 1, j0 (.iload 5), j3 (.invokestatic 131) 2 1 7, j1 (.ifCond .eq 0) 42, j0 (.iconst 1), j1 (.goto 0) 43, j0 (.iconst 0), j3 (.invokestatic 18) 1 1 0, j0 .iadd, j0 (.istore 3), j0 (.iinc 4 1), j1 (.goto 0) 25],
  [j0 (.iload 3), j1 .ireturn 0]]
/-- 167 WhoSigns$Book.drawMissing()I -/
def mj_k167 : List (List mj_Ins) := [[j0 (.iconst 0), j0 (.istore 1), j0 (.iconst 0), j0 (.istore 2), j0 (.iload 2), j0 (.aload 0), j3 (.getfield 1) 1 0 0, j1 (.if_icmp .ge 0) 31, j0 (.aload 0), j0 (.aload 0), j3 (.getfield 14) 1 0 0, j0 (.iconst 1103515245), j0 .imul, j0 (.iconst 12345), j0 .iadd, j3 (.putfield 14) 1 0 0],
  [j0 (.aload 0), j3 (.getfield 14) 1 0 0, j0 (.iconst 8), j0 .iushr, j0 (.iconst 4), j0 .irem, j1 (.ifCond .ne 0) 29, j0 (.iload 1), j0 (.iconst 1), j0 (.iload 2), j0 .ishl, j0 .ior, j0 (.istore 1), j0 (.iinc 2 1), j1 (.goto 0) 4, j0 (.iload 1)],
  [j1 .ireturn 0]]
/-- 168 WhoSigns.sheet(III)I -/
def mj_k168 : List (List mj_Ins) := [[j0 (.iload 1), j3 (.invokestatic 169) 1 1 0, j1 (.ifCond .eq 0) 8, j0 (.iload 2), j0 (.iconst (-1)), j0 (.iconst 1), j3 (.invokestatic 13) 3 1 0, j1 (.ifCond .ne 0) 10, j0 (.iconst (-1000000001)), j1 .ireturn 0, j0 (.iload 2), j0 (.iconst (-1)), j1 (.if_icmp .ne 0) 22, j0 (.aload 0), j3 (.getfield 6) 0 1 1, j0 (.iload 1)],
  [j0 .aaload, j0 (.iconst (-1)), j0 (.iconst 0), j3 (.invokestatic 170) 3 0 10, j0 (.iconst 0), j1 .ireturn 0, j0 (.iload 3), j0 (.iconst 24), j1 (.if_icmp .le 0) 27, j0 (.iconst (-1000000001)), j1 .ireturn 0, j0 (.iload 3), j1 (.ifCond .ge 0) 31, j0 (.iconst (-1000000014)), j1 .ireturn 0, j0 (.aload 0)],
  [j3 (.getfield 6) 0 1 1, j0 (.iload 1), j0 .aaload, j0 (.iload 2), j0 (.iload 3), j3 (.invokestatic 170) 3 0 10, j0 (.iload 3), j1 .ireturn 0]]
/-- 169 WhoSigns.isSheet(I)Z -/
def mj_k169 : List (List mj_Ins) := [[j0 (.iload 0), j0 (.iconst 0), j0 (.iconst 3), j3 (.invokestatic 13) 3 1 0, j1 .ireturn 1]]
/-- 170 WhoSigns$Sheet.begin(II)V -/
def mj_k170 : List (List mj_Ins) := [[j0 (.aload 0), j0 (.iload 1), j3 (.putfield 0) 9 0 0, j0 (.aload 0), j0 (.iload 2), j3 (.putfield 1) 9 0 0, j0 (.aload 0), j3 (.getfield 2) 9 1 1, j0 (.iconst 0), j3 (.invokestatic 171) 2 0 0, j0 .return_]]
/-- 171 java/util/Arrays.fill([BB)V -/
def mj_k171 : List (List mj_Ins) := [[j0 (.iconst 0), j0 (.istore 2), j0 (.aload 0), j0 .arraylength, j0 (.istore 3), j0 (.iload 2), j0 (.iload 3), j1 (.if_icmp .ge 0) 14, j0 (.aload 0), j0 (.iload 2), j0 (.iload 1), j0 .bastore, j0 (.iinc 2 1), j1 (.goto 0) 5, j0 .return_]]
/-- 172 WhoSigns.mark(III)I -/
def mj_k172 : List (List mj_Ins) := [[j0 (.iload 1), j3 (.invokestatic 169) 1 1 0, j1 (.ifCond .ne 0) 5, j0 (.iconst (-1000000001)), j1 .ireturn 0, j0 (.aload 0), j3 (.getfield 6) 0 1 1, j0 (.iload 1), j0 .aaload, j0 (.astore 4), j0 (.aload 4), j3 (.getfield 0) 9 0 0, j0 (.iconst (-1)), j1 (.if_icmp .ne 0) 16, j0 (.iconst (-1000000011)), j1 .ireturn 0],
  [j0 (.aload 4), j0 (.iload 2), j3 (.invokestatic 173) 2 1 10, j1 (.ifCond .ne 0) 22, j0 (.iconst (-1000000013)), j1 .ireturn 0, j0 (.aload 4), j3 (.getfield 2) 9 1 1, j0 (.iload 2), j0 .baload, j0 (.istore 5), j0 (.aload 4), j3 (.getfield 2) 9 1 1, j0 (.iload 2), j0 (.aload 4), j3 (.getfield 0) 9 0 0],
  [j1 (.ifCond .ne 0) 41, j0 (.iload 3), j1 (.ifCond .eq 0) 37, j0 (.iconst 1), j1 (.goto 0) 38, j0 (.iconst 0), j3 (.invokestatic 18) 1 1 0, j0 .i2b, j1 (.goto 0) 43, j0 (.iload 3), j0 .i2b, j0 .bastore, j0 (.iload 5), j1 .ireturn 0]]
/-- 173 WhoSigns$Sheet.hasPlace(I)Z -/
def mj_k173 : List (List mj_Ins) := [[j0 (.iload 1), j0 (.iconst 0), j0 (.aload 0), j3 (.getfield 1) 9 0 0, j0 (.iconst 1), j0 .isub, j3 (.invokestatic 13) 3 1 0, j1 .ireturn 1]]
/-- 174 WhoSigns.papers(II)I -/
def mj_k174 : List (List mj_Ins) := [[j0 (.aload 0), j3 (.getfield 0) 0 1 1, j0 (.iload 1), j3 (.invokestatic 16) 2 1 2, j1 (.ifCond .eq 0) 8, j0 (.iload 2), j3 (.invokestatic 169) 1 1 0, j1 (.ifCond .ne 0) 10, j0 (.iconst (-1000000001)), j1 .ireturn 0, j0 (.aload 0), j3 (.getfield 6) 0 1 1, j0 (.iload 2), j0 .aaload, j0 (.astore 3), j0 (.aload 3)],
  [j3 (.getfield 0) 9 0 0, j0 (.iconst (-1)), j1 (.if_icmp .ne 0) 21, j0 (.iconst (-1000000011)), j1 .ireturn 0, j0 (.iconst 0), j0 (.istore 4), j0 (.iconst 8), j0 (.aload 3), j3 (.getfield 1) 9 0 0, j0 .dmul, j0 (.istore 5), j0 (.iconst 0), j0 (.istore 6), j0 (.iload 6), j0 (.iload 5)],
  [j1 (.if_icmp .ge 0) 54, j0 (.iload 4), j0 (.aload 0), j3 (.getfield 0) 0 1 1, j3 (.getfield 0) 1 1 1, j0 (.iload 1), j0 .aaload, j0 (.iload 6), j0 (.aload 3), j3 (.getfield 2) 9 1 1, j0 (.iload 6), j0 .baload, j1 (.ifCond .eq 0) 47, j0 (.iconst 1), j1 (.goto 0) 48, j0 (.iconst 0)],
  [j3 (.invokestatic 26) 3 1 4, j3 (.invokestatic 18) 1 1 0, j0 .iadd, j0 (.istore 4), j0 (.iinc 6 1), j1 (.goto 0) 30, j0 (.iload 4), j1 .ireturn 0]]
/-- 175 WhoSigns.copy(IIIII)I -/
def mj_k175 : List (List mj_Ins) := [[j0 (.iload 1), j3 (.invokestatic 169) 1 1 0, j1 (.ifCond .eq 0) 6, j0 (.iload 3), j3 (.invokestatic 169) 1 1 0, j1 (.ifCond .ne 0) 8, j0 (.iconst (-1000000001)), j1 .ireturn 0, j0 (.aload 0), j3 (.getfield 6) 0 1 1, j0 (.iload 1), j0 .aaload, j0 (.astore 6), j0 (.aload 0), j3 (.getfield 6) 0 1 1, j0 (.iload 3)],
  [j0 .aaload, j0 (.astore 7), j0 (.aload 6), j3 (.getfield 0) 9 0 0, j0 (.iconst (-1)), j1 (.if_icmp .eq 0) 26, j0 (.aload 7), j3 (.getfield 0) 9 0 0, j0 (.iconst (-1)), j1 (.if_icmp .ne 0) 28, j0 (.iconst (-1000000011)), j1 .ireturn 0, j0 (.aload 6), j3 (.getfield 0) 9 0 0, j0 (.aload 7), j3 (.getfield 0) 9 0 0],
  [j1 (.if_icmp .eq 0) 35, j0 (.iconst (-1000000012)), j1 .ireturn 0, j0 (.aload 6), j0 (.iload 2), j0 (.iload 5), j3 (.invokestatic 176) 3 1 10, j1 (.ifCond .eq 0) 45, j0 (.aload 7), j0 (.iload 4), j0 (.iload 5), j3 (.invokestatic 176) 3 1 10, j1 (.ifCond .ne 0) 47, j0 (.iconst (-1000000013)), j1 .ireturn 0, j0 (.aload 6)],
  [j3 (.getfield 2) 9 1 1, j0 (.iload 2), j0 (.aload 7), j3 (.getfield 2) 9 1 1, j0 (.iload 4), j0 (.iload 5), j0 (.invokedynamic 0), j0 (.iload 5), j1 .ireturn 0]]
/-- 176 WhoSigns$Sheet.hasRun(II)Z -/
def mj_k176 : List (List mj_Ins) := [[j0 (.iload 1), j1 (.ifCond .lt 0) 12, j0 (.iload 2), j1 (.ifCond .lt 0) 12, j0 (.iload 1), j0 (.aload 0), j3 (.getfield 1) 9 0 0, j0 (.iload 2), j0 .isub, j1 (.if_icmp .gt 0) 12, j0 (.iconst 1), j1 (.goto 0) 13, j0 (.iconst 0), j1 .ireturn 1]]
/-- 177 WhoSigns.lay(III)I -/
def mj_k177 : List (List mj_Ins) := [[j0 (.iload 1), j3 (.invokestatic 178) 1 1 0, j1 (.ifCond .eq 0) 8, j0 (.iload 2), j0 (.iconst 0), j0 (.iconst 3), j3 (.invokestatic 13) 3 1 0, j1 (.ifCond .ne 0) 10, j0 (.iconst (-1000000001)), j1 .ireturn 0, j0 (.iload 2), j0 (.iconst 1), j1 (.if_icmp .ne 0) 18, j0 (.aload 0), j3 (.getfield 0) 0 1 1, j0 (.iload 3)],
  [j3 (.invokestatic 49) 2 1 2, j1 (.ifCond .eq 0) 24, j0 (.iload 2), j0 (.iconst 2), j1 (.if_icmp .ne 0) 26, j0 (.iload 3), j3 (.invokestatic 169) 1 1 0, j1 (.ifCond .ne 0) 26, j0 (.iconst (-1000000001)), j1 .ireturn 0, j0 (.iload 2), j0 (.iconst 2), j1 (.if_icmp .ne 0) 38, j0 (.aload 0), j3 (.getfield 6) 0 1 1, j0 (.iload 3)],
  [j0 .aaload, j3 (.getfield 0) 9 0 0, j0 (.iconst (-1)), j1 (.if_icmp .ne 0) 38, j0 (.iconst (-1000000011)), j1 .ireturn 0, j0 (.aload 0), j3 (.getfield 7) 0 1 1, j0 (.iload 1), j0 .aaload, j0 (.astore 4), j0 (.aload 4), j3 (.getfield 0) 10 0 0, j0 (.istore 5), j0 (.aload 4), j0 (.iload 2)],
  [j3 (.putfield 0) 10 0 0, j0 (.iload 2), j0 (.iconst 1), j1 (.if_icmp .ne 0) 61, j0 (.aload 4), j3 (.getfield 2) 10 1 1, j0 (.aload 0), j3 (.getfield 0) 0 1 1, j3 (.getfield 4) 1 1 1, j0 (.iload 3), j0 .aaload, j3 (.invokestatic 64) 2 0 6, j1 (.goto 0) 75, j0 (.iload 2), j0 (.iconst 2), j1 (.if_icmp .ne 0) 72],
  [j0 (.aload 4), j3 (.getfield 3) 10 1 1, j0 (.aload 0), j3 (.getfield 6) 0 1 1, j0 (.iload 3), j0 .aaload, j3 (.invokestatic 179) 2 0 10, j1 (.goto 0) 75, j0 (.aload 4), j0 (.iload 3), j3 (.putfield 1) 10 0 0, j0 (.iload 5), j1 .ireturn 0]]
/-- 178 WhoSigns.isSlot(I)Z -/
def mj_k178 : List (List mj_Ins) := [[j0 (.iload 0), j0 (.iconst 0), j0 (.iconst 4), j3 (.invokestatic 13) 3 1 0, j1 .ireturn 1]]
/-- 179 WhoSigns$Sheet.takeFrom(LWhoSigns$Sheet;)V -/
def mj_k179 : List (List mj_Ins) := [[j0 (.aload 0), j0 (.aload 1), j3 (.getfield 0) 9 0 0, j3 (.putfield 0) 9 0 0, j0 (.aload 0), j0 (.aload 1), j3 (.getfield 1) 9 0 0, j3 (.putfield 1) 9 0 0, j0 (.aload 1), j3 (.getfield 2) 9 1 1, j0 (.iconst 0), j0 (.aload 0), j3 (.getfield 2) 9 1 1, j0 (.iconst 0), j0 (.iconst 24), j0 (.invokedynamic 0)],
  [j0 .return_]]
/-- 180 WhoSigns.ask(II)I -/
def mj_k180 : List (List mj_Ins) := [[j0 (.iload 1), j3 (.invokestatic 178) 1 1 0, j1 (.ifCond .eq 0) 6, j0 (.iload 2), j3 (.invokestatic 46) 1 1 0, j1 (.ifCond .ne 0) 8, j0 (.iconst (-1000000001)), j1 .ireturn 0, j0 (.aload 0), j3 (.getfield 7) 0 1 1, j0 (.iload 1), j0 .aaload, j0 (.astore 3), j0 (.aload 3), j3 (.getfield 0) 10 0 0, j1 (.ifCond .ne 0) 18],
  [j0 (.iconst (-1000000011)), j1 .ireturn 0, j0 (.aload 3), j3 (.getfield 0) 10 0 0, j0 (.iconst 1), j1 (.if_icmp .ne 0) 28, j0 (.aload 3), j3 (.getfield 2) 10 1 1, j3 (.getfield 0) 5 0 0, j0 (.iload 2), j3 (.invokestatic 60) 2 1 0, j1 (.ifCond .ne 0) 30, j0 (.iconst (-1000000012)), j1 .ireturn 0, j0 (.aload 3), j3 (.getfield 2) 10 1 1],
  [j3 (.getfield 0) 5 0 0, j0 (.aload 3), j3 (.getfield 2) 10 1 1, j3 (.getfield 3) 5 0 0, j3 (.invokestatic 50) 2 1 0, j1 .ireturn 0]]
/-- 181 WhoSigns.item(II)I -/
def mj_k181 : List (List mj_Ins) := [[j0 (.iload 1), j3 (.invokestatic 178) 1 1 0, j1 (.ifCond .ne 0) 5, j0 (.iconst (-1000000001)), j1 .ireturn 0, j0 (.aload 0), j3 (.getfield 7) 0 1 1, j0 (.iload 1), j0 .aaload, j0 (.astore 3), j0 (.aload 3), j3 (.getfield 0) 10 0 0, j1 (.ifCond .ne 0) 15, j0 (.iconst (-1000000011)), j1 .ireturn 0, j0 (.aload 3)],
  [j3 (.getfield 0) 10 0 0, j0 (.iconst 2), j1 (.if_icmp .eq 0) 21, j0 (.iconst (-1000000012)), j1 .ireturn 0, j0 (.aload 3), j3 (.getfield 3) 10 1 1, j0 (.iload 2), j3 (.invokestatic 173) 2 1 10, j1 (.ifCond .eq 0) 32, j0 (.aload 3), j3 (.getfield 3) 10 1 1, j3 (.getfield 2) 9 1 1, j0 (.iload 2), j0 .baload, j1 (.goto 0) 33],
  [j0 (.iconst (-1000000013)), j1 .ireturn 0]]
/-- 182 WhoSigns.rest(II)I -/
def mj_k182 : List (List mj_Ins) := [[j0 (.iload 1), j3 (.invokestatic 178) 1 1 0, j1 (.ifCond .ne 0) 5, j0 (.iconst (-1000000001)), j1 .ireturn 0, j0 (.aload 0), j3 (.getfield 7) 0 1 1, j0 (.iload 1), j0 .aaload, j0 (.astore 3), j0 (.aload 3), j3 (.getfield 0) 10 0 0, j1 (.ifCond .ne 0) 15, j0 (.iconst (-1000000011)), j1 .ireturn 0, j0 (.aload 3)],
  [j3 (.getfield 0) 10 0 0, j0 (.iconst 3), j1 (.if_icmp .eq 0) 21, j0 (.iconst (-1000000012)), j1 .ireturn 0, j0 (.iload 2), j1 (.ifCond .ne 0) 25, j0 (.iconst (-1000000002)), j1 (.goto 0) 29, j0 (.aload 3), j3 (.getfield 1) 10 0 0, j0 (.iload 2), j0 .irem, j1 .ireturn 0]]
/-- 183 WhoSigns.tell(I)I -/
def mj_k183 : List (List mj_Ins) := [[j0 (.aload 0), j3 (.getfield 9) 0 0 0, j0 (.iconst 60), j1 (.if_icmp .lt 0) 6, j0 (.iconst (-1000000003)), j1 .ireturn 0, j0 (.aload 0), j3 (.getfield 8) 0 1 1, j0 (.aload 0), j3 (.getfield 9) 0 0 0, j0 (.iload 1), j0 .iastore, j0 (.aload 0), j0 .dup, j3 (.getfield 9) 0 0 0, j0 (.iconst 1)],
  [j0 .iadd, j3 (.putfield 9) 0 0 0, j0 (.aload 0), j3 (.getfield 9) 0 0 0, j1 .ireturn 0]]
/-- 184 WhoSigns.check(I)I -/
def mj_k184 : List (List mj_Ins) := [[j0 (.aload 0), j3 (.getfield 9) 0 0 0, j0 (.istore 2), j0 (.aload 0), j0 (.iconst 0), j3 (.putfield 9) 0 0 0, j0 (.iload 1), j0 (.iconst 1), j0 (.iconst 20), j3 (.invokestatic 13) 3 1 0, j1 (.ifCond .ne 0) 13, j0 (.iconst (-1000000001)), j1 .ireturn 0, j0 (.aload 0), j3 (.getfield 2) 0 2 0, j1 (.ifCond .eq 0) 25],
  [j0 (.aload 0), j3 (.getfield 1) 0 1 1, j3 (.getfield 13) 1 0 0, j0 (.iload 1), j0 .iadd, j0 (.iconst 1), j0 .isub, j0 (.iconst 999), j1 (.if_icmp .le 0) 27, j0 (.iconst (-1000000002)), j1 .ireturn 0, j0 (.aload 0), j0 (.iload 1), j0 (.iload 2), j3 (.invokestatic 185) 3 1 1, j0 (.istore 3)],
  [j0 (.iload 3), j0 (.iload 1), j1 (.if_icmp .ne 0) 40, j0 (.iload 2), j0 (.iload 1), j1 (.if_icmp .ne 0) 40, j0 (.iconst 0), j1 (.goto 0) 43, j0 (.iconst 1), j0 (.iload 3), j0 .iadd, j1 .ireturn 0]]
/-- 185 WhoSigns.countRight(II)I -/
def mj_k185 : List (List mj_Ins) := [[j0 (.iload 1), j0 (.iload 2), j0 .dmul, j0 (.istore 3), j0 (.iconst 0), j0 (.istore 4), j0 (.iconst 0), j0 (.istore 5), j0 (.iload 5), j0 (.iload 3), j1 (.if_icmp .ge 0) 40, j0 (.aload 0), j3 (.getfield 3) 0 1 1, j0 (.aload 0), j3 (.getfield 1) 0 1 1, j0 (.aload 0)],
  [j3 (.getfield 1) 0 1 1, j3 (.getfield 13) 1 0 0, j0 (.iload 5), j0 .iadd, j3 (.invokestatic 115) 3 1 7, j0 (.istore 6), j0 (.iload 5), j1 (.ifCond .eq 0) 26, j0 (.iload 6), j1 (.ifCond .ne 0) 30, j0 (.aload 0), j3 (.getfield 3) 0 1 1, j3 (.invokestatic 120) 1 1 7, j0 (.istore 4), j0 (.aload 0), j3 (.getfield 8) 0 1 1],
  [j0 (.iload 5), j0 .iaload, j0 (.iload 4), j1 (.if_icmp .eq 0) 38, j0 (.iload 5), j1 .ireturn 0, j0 (.iinc 5 1), j1 (.goto 0) 8, j0 (.iload 3), j1 .ireturn 0]]
/-- 186 WhoSigns.keep()I -/
def mj_k186 : List (List mj_Ins) := [[j0 (.aload 0), j3 (.getfield 1) 0 1 1, j0 (.aload 0), j3 (.getfield 0) 0 1 1, j3 (.invokestatic 187) 2 0 2, j0 (.aload 0), j0 (.iconst 1), j3 (.putfield 2) 0 2 0, j0 (.aload 0), j3 (.getfield 0) 0 1 1, j3 (.getfield 13) 1 0 0, j1 .ireturn 0]]
/-- 187 WhoSigns$Book.takeFrom(LWhoSigns$Book;)V -/
def mj_k187 : List (List mj_Ins) := [[j0 (.aload 0), j0 (.aload 1), j3 (.getfield 1) 1 0 0, j3 (.putfield 1) 1 0 0, j0 (.aload 0), j0 (.aload 1), j3 (.getfield 3) 1 0 0, j3 (.putfield 3) 1 0 0, j0 (.aload 0), j0 (.aload 1), j3 (.getfield 5) 1 0 0, j3 (.putfield 5) 1 0 0, j0 (.aload 0), j0 (.aload 1), j3 (.getfield 7) 1 0 0, j3 (.putfield 7) 1 0 0],
  [j0 (.aload 0), j0 (.aload 1), j3 (.getfield 11) 1 0 0, j3 (.putfield 11) 1 0 0, j0 (.aload 0), j0 (.aload 1), j3 (.getfield 13) 1 0 0, j3 (.putfield 13) 1 0 0, j0 (.aload 0), j0 (.aload 1), j3 (.getfield 14) 1 0 0, j3 (.putfield 14) 1 0 0, j0 (.iconst 0), j0 (.istore 2), j0 (.iload 2), j0 (.iconst 7)],
  [j1 (.if_icmp .ge 0) 44, j0 (.aload 0), j3 (.getfield 0) 1 1 1, j0 (.iload 2), j0 .aaload, j0 (.aload 1), j3 (.getfield 0) 1 1 1, j0 (.iload 2), j0 .aaload, j3 (.invokestatic 188) 2 0 4, j0 (.iinc 2 1), j1 (.goto 0) 30, j0 (.iconst 0), j0 (.istore 2), j0 (.iload 2), j0 (.iconst 6)],
  [j1 (.if_icmp .ge 0) 60, j0 (.aload 0), j3 (.getfield 2) 1 1 1, j0 (.iload 2), j0 .aaload, j0 (.aload 1), j3 (.getfield 2) 1 1 1, j0 (.iload 2), j0 .aaload, j3 (.invokestatic 189) 2 0 5, j0 (.iinc 2 1), j1 (.goto 0) 46, j0 (.iconst 0), j0 (.istore 2), j0 (.iload 2), j0 (.iconst 12)],
  [j1 (.if_icmp .ge 0) 76, j0 (.aload 0), j3 (.getfield 4) 1 1 1, j0 (.iload 2), j0 .aaload, j0 (.aload 1), j3 (.getfield 4) 1 1 1, j0 (.iload 2), j0 .aaload, j3 (.invokestatic 64) 2 0 6, j0 (.iinc 2 1), j1 (.goto 0) 62, j0 (.iconst 0), j0 (.istore 2), j0 (.iload 2), j0 (.iconst 14)],
  [j1 (.if_icmp .ge 0) 91, j0 (.aload 0), j3 (.getfield 6) 1 1 1, j0 (.iload 2), j0 (.aload 1), j3 (.getfield 6) 1 1 1, j0 (.iload 2), j0 .aaload, j0 .aastore, j0 (.iinc 2 1), j1 (.goto 0) 78, j0 (.aload 1), j3 (.getfield 8) 1 1 1, j0 (.iconst 0), j0 (.aload 0), j3 (.getfield 8) 1 1 1],
  [j0 (.iconst 0), j0 (.iconst 3), j0 (.invokedynamic 0), j0 (.aload 1), j3 (.getfield 9) 1 1 1, j0 (.iconst 0), j0 (.aload 0), j3 (.getfield 9) 1 1 1, j0 (.iconst 0), j0 (.iconst 6), j0 (.invokedynamic 0), j0 (.aload 1), j3 (.getfield 10) 1 1 1, j0 (.iconst 0), j0 (.aload 0), j3 (.getfield 10) 1 1 1],
  [j0 (.iconst 0), j0 (.iconst 6), j0 (.invokedynamic 0), j0 (.aload 0), j3 (.getfield 12) 1 1 1, j0 (.aload 1), j3 (.getfield 12) 1 1 1, j3 (.invokestatic 190) 2 0 3, j0 .return_]]
/-- 188 WhoSigns$Person.takeFrom(LWhoSigns$Person;)V -/
def mj_k188 : List (List mj_Ins) := [[j0 (.aload 0), j0 (.aload 1), j3 (.getfield 0) 3 0 0, j3 (.putfield 0) 3 0 0, j0 (.aload 0), j0 (.aload 1), j3 (.getfield 1) 3 0 0, j3 (.putfield 1) 3 0 0, j0 (.aload 0), j0 (.aload 1), j3 (.getfield 2) 3 0 0, j3 (.putfield 2) 3 0 0, j0 (.aload 0), j0 (.aload 1), j3 (.getfield 3) 3 0 0, j3 (.putfield 3) 3 0 0],
  [j0 (.aload 0), j0 (.aload 1), j3 (.getfield 4) 3 0 0, j3 (.putfield 4) 3 0 0, j0 (.aload 0), j0 (.aload 1), j3 (.getfield 5) 3 0 0, j3 (.putfield 5) 3 0 0, j0 (.aload 0), j0 (.aload 1), j3 (.getfield 6) 3 0 0, j3 (.putfield 6) 3 0 0, j0 (.aload 0), j0 (.aload 1), j3 (.getfield 7) 3 0 0, j3 (.putfield 7) 3 0 0],
  [j0 .return_]]
/-- 189 WhoSigns$Step.takeFrom(LWhoSigns$Step;)V -/
def mj_k189 : List (List mj_Ins) := [[j0 (.aload 0), j0 (.aload 1), j3 (.getfield 0) 4 0 0, j3 (.putfield 0) 4 0 0, j0 (.aload 0), j0 (.aload 1), j3 (.getfield 1) 4 0 0, j3 (.putfield 1) 4 0 0, j0 (.aload 0), j0 (.aload 1), j3 (.getfield 2) 4 0 0, j3 (.putfield 2) 4 0 0, j0 (.aload 0), j0 (.aload 1), j3 (.getfield 3) 4 0 0, j3 (.putfield 3) 4 0 0],
  [j0 .return_]]
/-- 190 WhoSigns$Log.takeFrom(LWhoSigns$Log;)V -/
def mj_k190 : List (List mj_Ins) := [[j0 (.aload 1), j3 (.getfield 0) 2 1 1, j0 (.iconst 0), j0 (.aload 0), j3 (.getfield 0) 2 1 1, j0 (.iconst 0), j0 (.iconst 30), j0 (.invokedynamic 0), j0 (.aload 1), j3 (.getfield 1) 2 1 1, j0 (.iconst 0), j0 (.aload 0), j3 (.getfield 1) 2 1 1, j0 (.iconst 0), j0 (.iconst 30), j0 (.invokedynamic 0)],
  [j0 (.aload 1), j3 (.getfield 2) 2 1 1, j0 (.iconst 0), j0 (.aload 0), j3 (.getfield 2) 2 1 1, j0 (.iconst 0), j0 (.iconst 30), j0 (.invokedynamic 0), j0 (.aload 0), j0 (.aload 1), j3 (.getfield 3) 2 0 0, j3 (.putfield 3) 2 0 0, j0 .return_]]
/-- 191 WhoSigns.back()I -/
def mj_k191 : List (List mj_Ins) := [[j0 (.aload 0), j3 (.getfield 2) 0 2 0, j1 (.ifCond .ne 0) 5, j0 (.iconst (-1000000002)), j1 .ireturn 0, j0 (.aload 0), j3 (.getfield 0) 0 1 1, j0 (.aload 0), j3 (.getfield 1) 0 1 1, j3 (.invokestatic 187) 2 0 2, j0 (.aload 0), j3 (.getfield 0) 0 1 1, j3 (.getfield 13) 1 0 0, j1 .ireturn 0]]
/-- 192 WhoSigns.count(I)I -/
def mj_k192 : List (List mj_Ins) := [[j0 (.iload 1), (.lookupswitch 0 #[], 50, 0, 0, [(0, 2), (1, 6), (2, 10), (3, 14), (4, 18), (5, 22), (6, 26), (7, 31), (8, 35), (9, 38), (10, 42), (11, 46)]), j0 (.aload 0), j3 (.getfield 0) 0 1 1, j3 (.getfield 1) 1 0 0, j1 .ireturn 0, j0 (.aload 0), j3 (.getfield 0) 0 1 1, j3 (.getfield 3) 1 0 0, j1 .ireturn 0, j0 (.aload 0), j3 (.getfield 0) 0 1 1, j3 (.getfield 5) 1 0 0, j1 .ireturn 0, j0 (.aload 0), j3 (.getfield 0) 0 1 1],
  [j3 (.invokestatic 155) 1 1 2, j1 .ireturn 0, j0 (.aload 0), j3 (.getfield 0) 0 1 1, j3 (.getfield 7) 1 0 0, j1 .ireturn 0, j0 (.aload 0), j3 (.getfield 0) 0 1 1, j3 (.getfield 11) 1 0 0, j1 .ireturn 0, j0 (.aload 0), j3 (.getfield 0) 0 1 1, j3 (.getfield 12) 1 1 1, j3 (.getfield 3) 2 0 0, j1 .ireturn 0, j0 (.aload 0)],
  [j3 (.getfield 0) 0 1 1, j3 (.invokestatic 193) 1 1 2, j1 .ireturn 0, j0 (.aload 0), j3 (.getfield 9) 0 0 0, j1 .ireturn 0, j0 (.aload 0), j3 (.getfield 5) 0 1 1, j3 (.getfield 1) 8 0 0, j1 .ireturn 0, j0 (.aload 0), j3 (.getfield 0) 0 1 1, j3 (.getfield 13) 1 0 0, j1 .ireturn 0, j0 (.aload 0), j3 (.getfield 0) 0 1 1],
  [j3 (.getfield 14) 1 0 0, j1 .ireturn 0, j0 (.iconst (-1000000001)), j1 .ireturn 0]]
/-- 193 WhoSigns$Book.countAway()I -/
def mj_k193 : List (List mj_Ins) := [[j0 (.iconst 0), j0 (.istore 1), j0 (.iconst 0), j0 (.istore 2), j0 (.iload 2), j0 (.aload 0), j3 (.getfield 1) 1 0 0, j1 (.if_icmp .ge 0) 21, j0 (.iload 1), j0 (.aload 0), j3 (.getfield 0) 1 1 1, j0 (.iload 2), j0 .aaload, j0 (.aload 0), j3 (.getfield 13) 1 0 0, j3 (.invokestatic 17) 2 1 4],
  [j3 (.invokestatic 18) 1 1 0, j0 .iadd, j0 (.istore 1), j0 (.iinc 2 1), j1 (.goto 0) 4, j0 (.iload 1), j1 .ireturn 0]]
/-- 194 WhoSignsModel.<init>()V -/
def mj_k194 : List (List mj_Ins) := [[j0 (.aload 0), j0 .monitorenter, j0 (.aload 0), j0 (.iconst 1610), j1 (.newarray .int) 20, j3 (.putfield 0) 12 1 1, j0 (.aload 0), j0 (.iconst 1610), j1 (.newarray .int) 20, j3 (.putfield 1) 12 1 1, j0 (.aload 0), j0 (.iconst 1610), j1 (.newarray .int) 20, j3 (.putfield 2) 12 1 1, j0 (.aload 0), j0 (.iconst 7)],
  [j1 (.newarray .int) 20, j3 (.putfield 5) 12 1 1, j0 (.aload 0), j0 (.iconst 6), j1 (.newarray .int) 20, j3 (.putfield 6) 12 1 1, j0 (.aload 0), j0 (.iconst 96), j1 (.newarray .int) 20, j3 (.putfield 7) 12 1 1, j0 (.aload 0), j0 (.iconst 11), j1 (.newarray .char) 23, j0 .dup, j0 (.iconst 0), j0 (.iconst 109)],
  [j0 .castore, j0 .dup, j0 (.iconst 1), j0 (.iconst 97), j0 .castore, j0 .dup, j0 (.iconst 2), j0 (.iconst 121), j0 .castore, j0 .dup, j0 (.iconst 3), j0 (.iconst 99), j0 .castore, j0 .dup, j0 (.iconst 4), j0 (.iconst 111)],
  [j0 .castore, j0 .dup, j0 (.iconst 5), j0 (.iconst 115), j0 .castore, j0 .dup, j0 (.iconst 6), j0 (.iconst 116), j0 .castore, j0 .dup, j0 (.iconst 7), j0 (.iconst 119), j0 .castore, j0 .dup, j0 (.iconst 8), j0 (.iconst 97)],
  [j0 .castore, j0 .dup, j0 (.iconst 9), j0 (.iconst 105), j0 .castore, j0 .dup, j0 (.iconst 10), j0 (.iconst 116), j0 .castore, j3 (.putfield 15) 12 1 1, j0 (.aload 0), j0 (.iconst 4), j1 (.newarray .int) 20, j0 .dup, j0 (.iconst 0), j0 (.iconst 0)],
  [j0 .iastore, j0 .dup, j0 (.iconst 1), j0 (.iconst 3), j0 .iastore, j0 .dup, j0 (.iconst 2), j0 (.iconst 7), j0 .iastore, j0 .dup, j0 (.iconst 3), j0 (.iconst 11), j0 .iastore, j3 (.putfield 16) 12 1 1, j0 (.aload 0), j0 (.iconst 96)],
  [j1 (.newarray .int) 20, j3 (.putfield 17) 12 1 1, j0 (.aload 0), j0 (.iconst 96), j1 (.newarray .int) 20, j3 (.putfield 20) 12 1 1, j0 (.aload 0), j0 (.iconst 10), j1 (.newarray .boolean) 22, j3 (.putfield 22) 12 1 1, j0 (.aload 0), j0 (.iconst 96), j1 (.newarray .int) 20, j3 (.putfield 23) 12 1 1, j0 (.aload 0), j0 (.iconst 4)],
  [j1 (.newarray .int) 20, j3 (.putfield 24) 12 1 1, j0 (.aload 0), j0 (.iconst 6), j1 (.newarray .int) 20, j3 (.putfield 25) 12 1 1, j0 (.aload 0), j0 (.iconst (-1)), j3 (.putfield 26) 12 0 0, j0 (.aload 0), j0 (.iconst (-1)), j3 (.putfield 27) 12 0 0, j0 (.aload 0), j0 (.iconst 6), j1 (.newarray .int) 20, j3 (.putfield 29) 12 1 1],
  [j0 (.aload 0), j0 (.iconst 6), j1 (.newarray .int) 20, j3 (.putfield 30) 12 1 1, j0 (.aload 0), j0 (.iconst 7), j1 (.newarray .int) 20, j3 (.putfield 33) 12 1 1, j0 (.aload 0), j0 (.iconst 7), j1 (.newarray .int) 20, j3 (.putfield 34) 12 1 1, j0 (.aload 0), j0 (.iconst 42), j1 (.newarray .int) 20, j3 (.putfield 35) 12 1 1],
  [j0 (.aload 0), j0 (.iconst 7), j1 (.newarray .int) 20, j3 (.putfield 36) 12 1 1, j0 (.aload 0), j0 (.iconst 7), j1 (.newarray .int) 20, j3 (.putfield 37) 12 1 1, j0 (.aload 0), j0 (.iconst 4), j1 (.newarray .int) 20, j0 .dup, j0 (.iconst 0), j0 (.iconst (-1)), j0 .iastore, j0 .dup],
  [j0 (.iconst 1), j0 (.iconst (-1)), j0 .iastore, j0 .dup, j0 (.iconst 2), j0 (.iconst (-1)), j0 .iastore, j0 .dup, j0 (.iconst 3), j0 (.iconst (-1)), j0 .iastore, j3 (.putfield 38) 12 1 1, j0 (.aload 0), j0 (.iconst 4), j1 (.newarray .int) 20, j3 (.putfield 39) 12 1 1],
  [j0 (.aload 0), j0 (.iconst 96), j1 (.newarray .int) 20, j3 (.putfield 40) 12 1 1, j0 (.aload 0), j0 (.iconst 5), j1 (.newarray .int) 20, j3 (.putfield 41) 12 1 1, j0 (.aload 0), j0 (.iconst 5), j1 (.newarray .int) 20, j3 (.putfield 42) 12 1 1, j0 (.aload 0), j0 (.iconst 5), j1 (.newarray .int) 20, j3 (.putfield 43) 12 1 1],
  [j0 (.aload 0), j0 (.iconst 120), j1 (.newarray .int) 20, j3 (.putfield 44) 12 1 1, j0 (.aload 0), j0 (.iconst 24), j1 (.newarray .int) 20, j3 (.putfield 45) 12 1 1, j0 (.aload 0), j0 (.iconst 60), j1 (.newarray .int) 20, j3 (.putfield 46) 12 1 1, j0 (.aload 0), j3 (.getfield 0) 12 1 1, j0 (.iconst 0), j0 (.iconst 1)],
  [j0 .iastore, j0 .return_]]
/-- 195 WhoSignsModel.person(III)I -/
def mj_k195 : List (List mj_Ins) := [[j0 (.iload 1), j0 (.iconst 0), j0 (.iconst 4), j3 (.invokestatic 196) 3 1 0, j1 (.ifCond .eq 0) 15, j0 (.iload 2), j0 (.iconst 0), j0 (.iconst 9), j3 (.invokestatic 196) 3 1 0, j1 (.ifCond .eq 0) 15, j0 (.iload 3), j0 (.iconst 0), j0 (.iconst 9), j3 (.invokestatic 196) 3 1 0, j1 (.ifCond .ne 0) 17, j0 (.iconst (-1000000001))],
  [j1 .ireturn 0, j0 (.aload 0), j3 (.getfield 0) 12 1 1, j0 (.iconst 2), j0 .iaload, j0 (.iconst 7), j1 (.if_icmp .ne 0) 25, j0 (.iconst (-1000000003)), j1 .ireturn 0, j0 (.iconst 8), j0 (.iconst 8), j0 (.aload 0), j3 (.getfield 0) 12 1 1, j0 (.iconst 2), j0 .iaload, j0 .imul],
  [j0 .iadd, j0 (.istore 4), j0 (.aload 0), j3 (.getfield 0) 12 1 1, j0 (.iload 4), j0 (.iload 1), j0 .iastore, j0 (.aload 0), j3 (.getfield 0) 12 1 1, j0 (.iload 4), j0 (.iconst 1), j0 .iadd, j0 (.iload 2), j0 .iastore, j0 (.aload 0), j3 (.getfield 0) 12 1 1],
  [j0 (.iload 4), j0 (.iconst 2), j0 .iadd, j0 (.iload 3), j0 .iastore, j0 (.aload 0), j3 (.getfield 0) 12 1 1, j0 (.iload 4), j0 (.iconst 3), j0 .iadd, j0 (.iconst 0), j0 .iastore, j0 (.aload 0), j3 (.getfield 0) 12 1 1, j0 (.iload 4), j0 (.iconst 4)],
  [j0 .iadd, j0 (.iconst 0), j0 .iastore, j0 (.aload 0), j3 (.getfield 0) 12 1 1, j0 (.iload 4), j0 (.iconst 5), j0 .iadd, j0 (.iconst (-1)), j0 .iastore, j0 (.aload 0), j3 (.getfield 0) 12 1 1, j0 (.iload 4), j0 (.iconst 6), j0 .iadd, j0 (.iconst (-1))],
  [j0 .iastore, j0 (.aload 0), j3 (.getfield 0) 12 1 1, j0 (.iload 4), j0 (.iconst 7), j0 .iadd, j0 (.iconst (-1)), j0 .iastore, j0 (.aload 0), j3 (.getfield 0) 12 1 1, j0 (.iconst 2), j0 .dup2, j0 .iaload, j0 (.iconst 1), j0 .iadd, j0 .iastore],
  [j0 (.aload 0), j0 .dup, j3 (.getfield 4) 12 0 0, j0 (.iconst 1), j0 .iadd, j3 (.putfield 4) 12 0 0, j0 (.aload 0), j3 (.getfield 0) 12 1 1, j0 (.iconst 2), j0 .iaload, j0 (.iconst 1), j0 .isub, j1 .ireturn 0]]
/-- 196 WhoSignsModel.in(III)Z -/
def mj_k196 : List (List mj_Ins) := [[j0 (.iload 0), j0 (.iload 1), j1 (.if_icmp .lt 0) 8, j0 (.iload 0), j0 (.iload 2), j1 (.if_icmp .gt 0) 8, j0 (.iconst 1), j1 (.goto 0) 9, j0 (.iconst 0), j1 .ireturn 1]]
/-- 197 WhoSignsModel.personTold(II)I -/
def mj_k197 : List (List mj_Ins) := [[j0 (.aload 0), j0 (.iload 1), j3 (.invokestatic 198) 2 1 13, j1 (.ifCond .eq 0) 9, j0 (.iload 2), j0 (.iconst 0), j0 (.iconst 7), j3 (.invokestatic 196) 3 1 0, j1 (.ifCond .ne 0) 11, j0 (.iconst (-1000000001)), j1 .ireturn 0, j0 (.iload 2), (.lookupswitch 0 #[], 47, 0, 0, [(4, 13), (5, 25), (6, 31), (7, 43)]), j0 (.aload 0), j0 (.iload 1), j0 (.aload 0)],
  [j3 (.getfield 0) 12 1 1, j0 (.iconst 1), j0 .iaload, j3 (.invokestatic 199) 3 1 13, j1 (.ifCond .eq 0) 23, j0 (.iconst 1), j1 (.goto 0) 24, j0 (.iconst 0), j1 .ireturn 0, j0 (.aload 0), j0 (.iload 1), j0 (.iconst 6), j3 (.invokestatic 200) 3 1 13, j3 (.invokestatic 201) 1 1 0, j1 .ireturn 0, j0 (.aload 0)],
  [j0 (.iload 1), j0 (.iconst 6), j3 (.invokestatic 200) 3 1 13, j1 (.ifCond .ge 0) 38, j0 (.iconst (-1000000005)), j1 (.goto 0) 42, j0 (.aload 0), j0 (.iload 1), j0 (.iconst 7), j3 (.invokestatic 200) 3 1 13, j1 .ireturn 0, j0 (.aload 0), j0 (.iload 1), j3 (.invokestatic 202) 2 1 13, j1 .ireturn 0, j0 (.aload 0)],
  [j0 (.iload 1), j0 (.iload 2), j3 (.invokestatic 200) 3 1 13, j1 .ireturn 0]]
/-- 198 WhoSignsModel.isPerson(I)Z -/
def mj_k198 : List (List mj_Ins) := [[j0 (.iload 1), j0 (.iconst 0), j0 (.aload 0), j3 (.getfield 0) 12 1 1, j0 (.iconst 2), j0 .iaload, j0 (.iconst 1), j0 .isub, j3 (.invokestatic 196) 3 1 0, j1 .ireturn 1]]
/-- 199 WhoSignsModel.isAway(II)Z -/
def mj_k199 : List (List mj_Ins) := [[j0 (.iload 2), j0 (.aload 0), j0 (.iload 1), j0 (.iconst 4), j3 (.invokestatic 200) 3 1 13, j0 (.aload 0), j0 (.iload 1), j0 (.iconst 5), j3 (.invokestatic 200) 3 1 13, j3 (.invokestatic 196) 3 1 0, j1 .ireturn 1]]
/-- 200 WhoSignsModel.of8(II)I -/
def mj_k200 : List (List mj_Ins) := [[j0 (.aload 0), j3 (.getfield 0) 12 1 1, j0 (.iconst 8), j0 (.iconst 8), j0 (.iload 1), j0 .imul, j0 .iadd, j0 (.iload 2), j0 .iadd, j0 .iaload, j1 .ireturn 0]]
/-- 201 WhoSignsModel.orNone(I)I -/
def mj_k201 : List (List mj_Ins) := [[j0 (.iload 0), j1 (.ifCond .ge 0) 4, j0 (.iconst (-1000000005)), j1 (.goto 0) 5, j0 (.iload 0), j1 .ireturn 0]]
/-- 202 WhoSignsModel.waitOf(I)I -/
def mj_k202 : List (List mj_Ins) := [[j0 (.aload 0), j0 (.iconst 2), j3 (.invokestatic 203) 2 1 13, j0 (.istore 2), j0 (.aload 0), j3 (.getfield 24) 12 1 1, j0 (.iconst 0), j0 (.aload 0), j0 (.iload 1), j0 (.iconst 1), j3 (.invokestatic 200) 3 1 13, j0 .iastore, j0 (.aload 0), j3 (.getfield 24) 12 1 1, j0 (.iconst 1), j0 (.aload 0)],
  [j0 (.iload 1), j0 (.iconst 0), j3 (.invokestatic 200) 3 1 13, j0 .iastore, j0 (.aload 0), j3 (.getfield 24) 12 1 1, j0 (.iconst 2), j0 (.aload 0), j3 (.getfield 0) 12 1 1, j0 (.iconst 1), j0 .iaload, j0 .iastore, j0 (.iload 2), j1 (.ifCond .ge 0) 37, j0 (.iconst 10), j0 (.aload 0)],
  [j0 (.iload 1), j0 (.iconst 1), j3 (.invokestatic 200) 3 1 13, j0 .imul, j1 (.goto 0) 40, j0 (.aload 0), j0 (.iload 2), j3 (.invokestatic 204) 2 1 13, j1 .ireturn 0]]
/-- 203 WhoSignsModel.counts(I)I -/
def mj_k203 : List (List mj_Ins) := [[j0 (.aload 0), j3 (.getfield 0) 12 1 1, j0 (.iconst 5), j0 .iaload, j0 (.iconst 1), j0 .isub, j0 (.istore 2), j0 (.iload 2), j1 (.ifCond .lt 0) 25, j0 (.aload 0), j3 (.getfield 0) 12 1 1, j0 (.iconst 238), j0 (.iconst 2), j0 (.iload 2), j0 .imul, j0 .iadd],
  [j0 .iaload, j0 (.iconst 1000), j0 .idiv, j0 (.iload 1), j1 (.if_icmp .ne 0) 23, j0 (.iload 2), j1 .ireturn 0, j0 (.iinc 2 (-1)), j1 (.goto 0) 7, j0 (.iconst (-1)), j1 .ireturn 0]]
/-- 204 WhoSignsModel.worksOut(I)I -/
def mj_k204 : List (List mj_Ins) := [[j0 (.iconst 0), j0 (.istore 2), j0 (.aload 0), j3 (.getfield 0) 12 1 1, j0 (.iconst 238), j0 (.iconst 2), j0 (.iload 1), j0 .imul, j0 .iadd, j0 .iaload, j0 (.iconst 1000), j0 .irem, j0 (.istore 3), j0 (.iconst 0), j0 (.istore 4), j0 (.iload 4)],
  [j0 (.iload 3), j1 (.if_icmp .ge 0) 89, j0 (.aload 0), j3 (.getfield 0) 12 1 1, j0 (.iconst 266), j0 (.iconst 96), j0 (.iload 1), j0 .imul, j0 .iadd, j0 (.iload 4), j0 .iadd, j0 .iaload, j0 (.istore 5), j0 (.iload 5), j1 (.ifCond .lt 0) 48, j0 (.aload 0)],
  [j3 (.getfield 23) 12 1 1, j0 (.iload 2), j0 (.iload 5), j0 (.iconst 10000), j1 (.if_icmp .ge 0) 39, j0 (.iload 5), j1 (.goto 0) 45, j0 (.aload 0), j3 (.getfield 24) 12 1 1, j0 (.iload 5), j0 (.iconst 10000), j0 .isub, j0 .iaload, j0 .iastore, j0 (.iinc 2 1), j1 (.goto 0) 87],
  [j0 (.iload 5), j0 (.iconst (-10)), j1 (.if_icmp .ne 0) 68, j0 (.aload 0), j3 (.getfield 23) 12 1 1, j0 (.iload 2), j0 (.iconst 1), j0 .isub, j0 (.aload 0), j3 (.getfield 23) 12 1 1, j0 (.iload 2), j0 (.iconst 1), j0 .isub, j0 .iaload, j1 (.ifCond .ne 0) 65, j0 (.iconst 1)],
  [j1 (.goto 0) 66, j0 (.iconst 0), j0 .iastore, j1 (.goto 0) 87, j0 (.iinc 2 (-1)), j0 (.aload 0), j3 (.getfield 23) 12 1 1, j0 (.iload 2), j0 (.iconst 1), j0 .isub, j0 (.iload 5), j0 (.aload 0), j3 (.getfield 23) 12 1 1, j0 (.iload 2), j0 (.iconst 1), j0 .isub],
  [j0 .iaload, j0 (.aload 0), j3 (.getfield 23) 12 1 1, j0 (.iload 2), j0 .iaload, j3 (.invokestatic 205) 3 1 0, j0 .iastore, j0 (.iinc 4 1), j1 (.goto 0) 15, j0 (.aload 0), j3 (.getfield 23) 12 1 1, j0 (.iconst 0), j0 .iaload, j1 .ireturn 0]]
/-- 205 WhoSignsModel.two(III)I -/
def mj_k205 : List (List mj_Ins) := [[j0 (.iload 0), (.lookupswitch 0 #[], 51, 0, 0, [((-8), 47), ((-7), 43), ((-6), 39), ((-5), 32), ((-4), 25), ((-3), 18), ((-2), 10), ((-1), 2)]), j0 (.iload 1), j1 (.ifCond .ne 0) 6, j0 (.iload 2), j1 (.ifCond .eq 0) 8, j0 (.iconst 1), j1 (.goto 0) 9, j0 (.iconst 0), j1 .ireturn 0, j0 (.iload 1), j1 (.ifCond .eq 0) 16, j0 (.iload 2), j1 (.ifCond .eq 0) 16, j0 (.iconst 1), j1 (.goto 0) 17],
  [j0 (.iconst 0), j1 .ireturn 0, j0 (.iload 1), j0 (.iload 2), j1 (.if_icmp .ge 0) 23, j0 (.iconst 1), j1 (.goto 0) 24, j0 (.iconst 0), j1 .ireturn 0, j0 (.iload 1), j0 (.iload 2), j1 (.if_icmp .ne 0) 30, j0 (.iconst 1), j1 (.goto 0) 31, j0 (.iconst 0), j1 .ireturn 0],
  [j0 (.iload 1), j0 (.iload 2), j1 (.if_icmp .le 0) 37, j0 (.iconst 1), j1 (.goto 0) 38, j0 (.iconst 0), j1 .ireturn 0, j0 (.iload 1), j0 (.iload 2), j0 .iadd, j1 .ireturn 0, j0 (.iload 1), j0 (.iload 2), j0 .isub, j1 .ireturn 0, j0 (.iload 1)],
  [j0 (.iload 2), j0 .imul, j1 .ireturn 0, j0 (.iload 2), j1 (.ifCond .ne 0) 55, j0 (.iconst 0), j1 (.goto 0) 58, j0 (.iload 1), j0 (.iload 2), j0 .idiv, j1 .ireturn 0]]
/-- 206 WhoSignsModel.paper(IIZ)I -/
def mj_k206 : List (List mj_Ins) := [[j0 (.aload 0), j0 (.iload 1), j3 (.invokestatic 198) 2 1 13, j1 (.ifCond .eq 0) 15, j0 (.iload 2), j0 (.iconst 0), j0 (.iconst 7), j3 (.invokestatic 196) 3 1 0, j1 (.ifCond .eq 0) 15, j0 (.aload 0), j0 (.iload 1), j0 (.iload 2), j0 (.iload 3), j3 (.invokestatic 207) 4 1 13, j1 (.goto 0) 16, j0 (.iconst (-1000000001))],
  [j1 .ireturn 0]]
/-- 207 WhoSignsModel.has(IIZ)I -/
def mj_k207 : List (List mj_Ins) := [[j0 (.iconst 8), j0 (.iconst 8), j0 (.iload 1), j0 .imul, j0 .iadd, j0 (.iconst 3), j0 .iadd, j0 (.istore 4), j0 (.aload 0), j3 (.getfield 0) 12 1 1, j0 (.iload 4), j0 .iaload, j0 (.istore 5), j0 (.aload 0), j3 (.getfield 0) 12 1 1, j0 (.iload 4)],
  [j0 (.iload 3), j1 (.ifCond .eq 0) 24, j0 (.iload 5), j0 (.iconst 1), j0 (.iload 2), j0 .ishl, j0 .ior, j1 (.goto 0) 31, j0 (.iload 5), j0 (.iconst 1), j0 (.iload 2), j0 .ishl, j0 (.iconst (-1)), j0 .ixor, j0 .iand, j0 .iastore],
  [j0 (.aload 0), j0 .dup, j3 (.getfield 4) 12 0 0, j0 (.iconst 1), j0 .iadd, j3 (.putfield 4) 12 0 0, j0 (.iload 5), j0 (.aload 0), j3 (.getfield 0) 12 1 1, j0 (.iload 4), j0 .iaload, j1 (.if_icmp .ne 0) 46, j0 (.iconst 0), j1 (.goto 0) 47, j0 (.iconst 1), j1 .ireturn 0]]
/-- 208 WhoSignsModel.away(III)I -/
def mj_k208 : List (List mj_Ins) := [[j0 (.aload 0), j0 (.iload 1), j3 (.invokestatic 198) 2 1 13, j1 (.ifCond .eq 0) 10, j0 (.iload 2), j3 (.invokestatic 209) 1 1 0, j1 (.ifCond .eq 0) 10, j0 (.iload 3), j3 (.invokestatic 209) 1 1 0, j1 (.ifCond .ne 0) 12, j0 (.iconst (-1000000001)), j1 .ireturn 0, j0 (.aload 0), j3 (.getfield 0) 12 1 1, j0 (.iconst 8), j0 (.iconst 8)],
  [j0 (.iload 1), j0 .imul, j0 .iadd, j0 (.iconst 4), j0 .iadd, j0 (.iload 2), j0 .iastore, j0 (.aload 0), j3 (.getfield 0) 12 1 1, j0 (.iconst 8), j0 (.iconst 8), j0 (.iload 1), j0 .imul, j0 .iadd, j0 (.iconst 5), j0 .iadd],
  [j0 (.iload 3), j0 .iastore, j0 (.aload 0), j0 .dup, j3 (.getfield 4) 12 0 0, j0 (.iconst 1), j0 .iadd, j3 (.putfield 4) 12 0 0, j0 (.aload 0), j0 (.iload 1), j0 (.aload 0), j3 (.getfield 0) 12 1 1, j0 (.iconst 1), j0 .iaload, j3 (.invokestatic 199) 3 1 13, j1 (.ifCond .eq 0) 50],
  [j0 (.iconst 1), j1 (.goto 0) 51, j0 (.iconst 0), j1 .ireturn 0]]
/-- 209 WhoSignsModel.isDay(I)Z -/
def mj_k209 : List (List mj_Ins) := [[j0 (.iload 0), j0 (.iconst 0), j0 (.iconst 999), j3 (.invokestatic 196) 3 1 0, j1 .ireturn 1]]
/-- 210 WhoSignsModel.stand(III)I -/
def mj_k210 : List (List mj_Ins) := [[j0 (.aload 0), j0 (.iload 1), j3 (.invokestatic 198) 2 1 13, j1 (.ifCond .eq 0) 17, j0 (.iload 2), j0 (.iconst (-1)), j1 (.if_icmp .eq 0) 19, j0 (.aload 0), j0 (.iload 2), j3 (.invokestatic 198) 2 1 13, j1 (.ifCond .eq 0) 17, j0 (.iload 2), j0 (.iload 1), j1 (.if_icmp .eq 0) 17, j0 (.iload 3), j3 (.invokestatic 209) 1 1 0],
  [j1 (.ifCond .ne 0) 19, j0 (.iconst (-1000000001)), j1 .ireturn 0, j0 (.aload 0), j0 (.iload 1), j0 (.iconst 6), j3 (.invokestatic 200) 3 1 13, j0 (.istore 4), j0 (.aload 0), j3 (.getfield 0) 12 1 1, j0 (.iconst 8), j0 (.iconst 8), j0 (.iload 1), j0 .imul, j0 .iadd, j0 (.iconst 6)],
  [j0 .iadd, j0 (.iload 2), j0 .iastore, j0 (.aload 0), j3 (.getfield 0) 12 1 1, j0 (.iconst 8), j0 (.iconst 8), j0 (.iload 1), j0 .imul, j0 .iadd, j0 (.iconst 7), j0 .iadd, j0 (.iload 3), j0 .iastore, j0 (.aload 0), j0 .dup],
  [j3 (.getfield 4) 12 0 0, j0 (.iconst 1), j0 .iadd, j3 (.putfield 4) 12 0 0, j0 (.iload 4), j3 (.invokestatic 201) 1 1 0, j1 .ireturn 0]]
/-- 211 WhoSignsModel.step(III)I -/
def mj_k211 : List (List mj_Ins) := [[j0 (.iload 1), j0 (.iconst (-1)), j0 (.iconst 7), j3 (.invokestatic 196) 3 1 0, j1 (.ifCond .eq 0) 15, j0 (.iload 2), j0 (.iconst 0), j0 (.iconst 9), j3 (.invokestatic 196) 3 1 0, j1 (.ifCond .eq 0) 15, j0 (.iload 3), j0 (.iconst 1), j0 (.iconst 60), j3 (.invokestatic 196) 3 1 0, j1 (.ifCond .ne 0) 17, j0 (.iconst (-1000000001))],
  [j1 .ireturn 0, j0 (.aload 0), j3 (.getfield 0) 12 1 1, j0 (.iconst 3), j0 .iaload, j0 (.iconst 6), j1 (.if_icmp .ne 0) 25, j0 (.iconst (-1000000003)), j1 .ireturn 0, j0 (.iconst 64), j0 (.iconst 4), j0 (.aload 0), j3 (.getfield 0) 12 1 1, j0 (.iconst 3), j0 .iaload, j0 .imul],
  [j0 .iadd, j0 (.istore 4), j0 (.aload 0), j3 (.getfield 0) 12 1 1, j0 (.iload 4), j0 (.iload 1), j0 .iastore, j0 (.aload 0), j3 (.getfield 0) 12 1 1, j0 (.iload 4), j0 (.iconst 1), j0 .iadd, j0 (.iload 2), j0 .iastore, j0 (.aload 0), j3 (.getfield 0) 12 1 1],
  [j0 (.iload 4), j0 (.iconst 2), j0 .iadd, j0 (.iload 3), j0 .iastore, j0 (.aload 0), j3 (.getfield 0) 12 1 1, j0 (.iload 4), j0 (.iconst 3), j0 .iadd, j0 (.iconst (-1)), j0 .iastore, j0 (.aload 0), j3 (.getfield 0) 12 1 1, j0 (.iconst 3), j0 .dup2],
  [j0 .iaload, j0 (.iconst 1), j0 .iadd, j0 .iastore, j0 (.aload 0), j0 .dup, j3 (.getfield 4) 12 0 0, j0 (.iconst 1), j0 .iadd, j3 (.putfield 4) 12 0 0, j0 (.aload 0), j3 (.getfield 0) 12 1 1, j0 (.iconst 3), j0 .iaload, j0 (.iconst 1), j0 .isub],
  [j1 .ireturn 0]]
/-- 212 WhoSignsModel.stepTold(II)I -/
def mj_k212 : List (List mj_Ins) := [[j0 (.aload 0), j0 (.iload 1), j3 (.invokestatic 213) 2 1 13, j1 (.ifCond .eq 0) 9, j0 (.iload 2), j0 (.iconst 0), j0 (.iconst 4), j3 (.invokestatic 196) 3 1 0, j1 (.ifCond .ne 0) 11, j0 (.iconst (-1000000001)), j1 .ireturn 0, j0 (.iload 2), j0 (.iconst 4), j1 (.if_icmp .ge 0) 30, j0 (.iload 2), j1 (.ifCond .eq 0) 19],
  [j0 (.iload 2), j0 (.iconst 3), j1 (.if_icmp .ne 0) 25, j0 (.aload 0), j0 (.iload 1), j0 (.iload 2), j3 (.invokestatic 214) 3 1 13, j3 (.invokestatic 201) 1 1 0, j1 (.goto 0) 29, j0 (.aload 0), j0 (.iload 1), j0 (.iload 2), j3 (.invokestatic 214) 3 1 13, j1 .ireturn 0, j0 (.iconst 0), j0 (.istore 3)],
  [j0 (.iconst 0), j0 (.istore 4), j0 (.iload 4), j0 (.aload 0), j3 (.getfield 0) 12 1 1, j0 (.iconst 2), j0 .iaload, j1 (.if_icmp .ge 0) 57, j0 (.iload 3), j0 (.aload 0), j0 (.iload 4), j0 (.iload 1), j0 (.aload 0), j3 (.getfield 0) 12 1 1, j0 (.iconst 1), j0 .iaload],
  [j3 (.invokestatic 215) 4 1 13, j1 (.ifCond .eq 0) 52, j0 (.iconst 1), j1 (.goto 0) 53, j0 (.iconst 0), j0 .iadd, j0 (.istore 3), j0 (.iinc 4 1), j1 (.goto 0) 34, j0 (.iload 3), j1 .ireturn 0]]
/-- 213 WhoSignsModel.isStep(I)Z -/
def mj_k213 : List (List mj_Ins) := [[j0 (.iload 1), j0 (.iconst 0), j0 (.aload 0), j3 (.getfield 0) 12 1 1, j0 (.iconst 3), j0 .iaload, j0 (.iconst 1), j0 .isub, j3 (.invokestatic 196) 3 1 0, j1 .ireturn 1]]
/-- 214 WhoSignsModel.of4(II)I -/
def mj_k214 : List (List mj_Ins) := [[j0 (.aload 0), j3 (.getfield 0) 12 1 1, j0 (.iconst 64), j0 (.iconst 4), j0 (.iload 1), j0 .imul, j0 .iadd, j0 (.iload 2), j0 .iadd, j0 .iaload, j1 .ireturn 0]]
/-- 215 WhoSignsModel.mayDo(III)Z -/
def mj_k215 : List (List mj_Ins) := [[j0 (.aload 0), j0 (.iload 1), j0 (.iload 3), j3 (.invokestatic 199) 3 1 13, j1 (.ifCond .ne 0) 28, j0 (.aload 0), j0 (.iload 1), j0 (.iconst 1), j3 (.invokestatic 200) 3 1 13, j0 (.aload 0), j0 (.iload 2), j0 (.iconst 1), j3 (.invokestatic 214) 3 1 13, j1 (.if_icmp .lt 0) 28, j0 (.aload 0), j0 (.iload 2)],
  [j0 (.iconst 0), j3 (.invokestatic 214) 3 1 13, j1 (.ifCond .lt 0) 30, j0 (.aload 0), j0 (.iload 1), j0 (.aload 0), j0 (.iload 2), j0 (.iconst 0), j3 (.invokestatic 214) 3 1 13, j0 (.iload 3), j3 (.invokestatic 216) 4 1 13, j1 (.ifCond .ne 0) 30, j0 (.iconst 0), j1 .ireturn 1, j0 (.aload 0), j0 (.iconst 0)],
  [j3 (.invokestatic 203) 2 1 13, j0 (.istore 4), j0 (.aload 0), j3 (.getfield 24) 12 1 1, j0 (.iconst 0), j0 (.iload 2), j0 .iastore, j0 (.aload 0), j3 (.getfield 24) 12 1 1, j0 (.iconst 1), j0 (.aload 0), j0 (.iload 1), j0 (.iconst 1), j3 (.invokestatic 200) 3 1 13, j0 .iastore, j0 (.aload 0)],
  [j3 (.getfield 24) 12 1 1, j0 (.iconst 2), j0 (.aload 0), j0 (.iload 1), j0 (.iconst 0), j3 (.invokestatic 200) 3 1 13, j0 .iastore, j0 (.aload 0), j3 (.getfield 24) 12 1 1, j0 (.iconst 3), j0 (.iload 3), j0 .iastore, j0 (.iload 4), j1 (.ifCond .lt 0) 66, j0 (.aload 0), j0 (.iload 4)],
  [j3 (.invokestatic 204) 2 1 13, j1 (.ifCond .eq 0) 68, j0 (.iconst 1), j1 (.goto 0) 69, j0 (.iconst 0), j1 .ireturn 1]]
/-- 216 WhoSignsModel.hasPaper(III)Z -/
def mj_k216 : List (List mj_Ins) := [[j0 (.aload 0), j0 (.iload 1), j0 (.iconst 3), j3 (.invokestatic 200) 3 1 13, j0 (.aload 0), j3 (.getfield 5) 12 1 1, j0 (.iload 1), j0 .iaload, j0 .ior, j0 (.iload 2), j0 .ishr, j0 (.iconst 1), j0 .iand, j0 (.iconst 1), j1 (.if_icmp .ne 0) 17, j0 (.iconst 1)],
  [j1 .ireturn 1, j0 (.aload 0), j0 (.iload 1), j0 (.iconst 6), j3 (.invokestatic 200) 3 1 13, j0 (.istore 4), j0 (.iload 4), j1 (.ifCond .lt 0) 52, j0 (.aload 0), j0 (.iload 1), j0 (.iconst 7), j3 (.invokestatic 200) 3 1 13, j0 (.iload 3), j1 (.if_icmp .lt 0) 52, j0 (.aload 0), j0 (.iload 4)],
  [j0 (.iload 3), j3 (.invokestatic 199) 3 1 13, j1 (.ifCond .eq 0) 52, j0 (.aload 0), j0 (.iload 4), j0 (.iconst 3), j3 (.invokestatic 200) 3 1 13, j0 (.aload 0), j3 (.getfield 5) 12 1 1, j0 (.iload 4), j0 .iaload, j0 .ior, j0 (.iload 2), j0 .ishr, j0 (.iconst 1), j0 .iand],
  [j0 (.iconst 1), j1 (.if_icmp .ne 0) 52, j0 (.iconst 1), j1 (.goto 0) 53, j0 (.iconst 0), j1 .ireturn 1]]
/-- 217 WhoSignsModel.days(I)I -/
def mj_k217 : List (List mj_Ins) := [[j0 (.iload 1), j0 (.iconst 1), j0 (.iconst 99), j3 (.invokestatic 196) 3 1 0, j1 (.ifCond .ne 0) 7, j0 (.iconst (-1000000001)), j1 .ireturn 0, j0 (.aload 0), j3 (.getfield 0) 12 1 1, j0 (.iconst 1), j0 .iaload, j0 (.iload 1), j0 .iadd, j0 (.iconst 999), j1 (.if_icmp .le 0) 17, j0 (.iconst (-1000000003))],
  [j1 .ireturn 0, j0 (.aload 0), j3 (.getfield 0) 12 1 1, j0 (.iconst 1), j0 .dup2, j0 .iaload, j0 (.iload 1), j0 .iadd, j0 .iastore, j0 (.aload 0), j3 (.getfield 0) 12 1 1, j0 (.iconst 1), j0 .iaload, j1 .ireturn 0]]
/-- 218 WhoSignsModel.may(III)I -/
def mj_k218 : List (List mj_Ins) := [[j0 (.aload 0), j0 (.iload 1), j3 (.invokestatic 198) 2 1 13, j1 (.ifCond .eq 0) 11, j0 (.aload 0), j0 (.iload 2), j3 (.invokestatic 213) 2 1 13, j1 (.ifCond .eq 0) 11, j0 (.iload 3), j3 (.invokestatic 209) 1 1 0, j1 (.ifCond .ne 0) 13, j0 (.iconst (-1000000001)), j1 .ireturn 0, j0 (.aload 0), j0 (.iload 1), j0 (.iload 2)],
  [j0 (.iload 3), j3 (.invokestatic 215) 4 1 13, j1 (.ifCond .eq 0) 21, j0 (.iconst 1), j1 (.goto 0) 22, j0 (.iconst 0), j1 .ireturn 0]]
/-- 219 WhoSignsModel.cost(II)I -/
def mj_k219 : List (List mj_Ins) := [[j0 (.aload 0), j0 (.iload 1), j3 (.invokestatic 198) 2 1 13, j1 (.ifCond .eq 0) 13, j0 (.aload 0), j0 (.iload 2), j3 (.invokestatic 213) 2 1 13, j1 (.ifCond .eq 0) 13, j0 (.aload 0), j0 (.iload 1), j0 (.iload 2), j3 (.invokestatic 220) 3 1 13, j1 (.goto 0) 14, j0 (.iconst (-1000000001)), j1 .ireturn 0]]
/-- 220 WhoSignsModel.costOf(II)I -/
def mj_k220 : List (List mj_Ins) := [[j0 (.aload 0), j0 (.iconst 1), j3 (.invokestatic 203) 2 1 13, j0 (.istore 3), j0 (.aload 0), j3 (.getfield 24) 12 1 1, j0 (.iconst 0), j0 (.aload 0), j0 (.iload 1), j0 (.iconst 1), j3 (.invokestatic 200) 3 1 13, j0 .iastore, j0 (.aload 0), j3 (.getfield 24) 12 1 1, j0 (.iconst 1), j0 (.aload 0)],
  [j0 (.iload 1), j0 (.iconst 0), j3 (.invokestatic 200) 3 1 13, j0 .iastore, j0 (.aload 0), j3 (.getfield 24) 12 1 1, j0 (.iconst 2), j0 (.aload 0), j0 (.iload 2), j0 (.iconst 2), j3 (.invokestatic 214) 3 1 13, j0 .iastore, j0 (.iload 3), j1 (.ifCond .ge 0) 42, j0 (.aload 0), j0 (.iload 2)],
  [j0 (.iconst 2), j3 (.invokestatic 214) 3 1 13, j0 (.aload 0), j0 (.iload 1), j0 (.iconst 1), j3 (.invokestatic 200) 3 1 13, j0 (.iconst 1), j0 .iadd, j0 .imul, j1 (.goto 0) 45, j0 (.aload 0), j0 (.iload 3), j3 (.invokestatic 204) 2 1 13, j0 (.istore 4), j0 (.iload 4), j1 (.ifCond .ge 0) 50],
  [j0 (.iconst 0), j1 (.goto 0) 56, j0 (.iload 4), j0 (.iconst 9999), j1 (.if_icmp .le 0) 55, j0 (.iconst 9999), j1 (.goto 0) 56, j0 (.iload 4), j1 .ireturn 0]]
/-- 221 WhoSignsModel.rule(III)I -/
def mj_k221 : List (List mj_Ins) := [[j0 (.iload 1), j0 (.iconst 0), j0 (.iconst 5), j3 (.invokestatic 196) 3 1 0, j1 (.ifCond .eq 0) 34, j0 (.iload 2), j0 (.iconst 0), j0 (.iconst 99), j3 (.invokestatic 196) 3 1 0, j1 (.ifCond .eq 0) 34, j0 (.aload 0), j0 (.iload 2), j0 (.iconst 10), j0 .idiv, j3 (.invokestatic 213) 2 1 13, j1 (.ifCond .eq 0) 34],
  [j0 (.aload 0), j0 (.iload 2), j0 (.iconst 10), j0 .irem, j3 (.invokestatic 213) 2 1 13, j1 (.ifCond .eq 0) 34, j0 (.iload 2), j0 (.iconst 10), j0 .idiv, j0 (.iload 2), j0 (.iconst 10), j0 .irem, j1 (.if_icmp .eq 0) 34, j0 (.iload 3), j0 (.iconst 0), j0 (.iconst 9)],
  [j3 (.invokestatic 196) 3 1 0, j1 (.ifCond .ne 0) 36, j0 (.iconst (-1000000001)), j1 .ireturn 0, j0 (.aload 0), j3 (.getfield 0) 12 1 1, j0 (.iconst 4), j0 .iaload, j0 (.iconst 12), j1 (.if_icmp .ne 0) 44, j0 (.iconst (-1000000003)), j1 .ireturn 0, j0 (.iconst 88), j0 (.iconst 4), j0 (.aload 0), j3 (.getfield 0) 12 1 1],
  [j0 (.iconst 4), j0 .iaload, j0 .imul, j0 .iadd, j0 (.istore 4), j0 (.aload 0), j3 (.getfield 0) 12 1 1, j0 (.iload 4), j0 (.iload 1), j0 .iastore, j0 (.aload 0), j3 (.getfield 0) 12 1 1, j0 (.iload 4), j0 (.iconst 1), j0 .iadd, j0 (.iload 2)],
  [j0 (.iconst 10), j0 .idiv, j0 .iastore, j0 (.aload 0), j3 (.getfield 0) 12 1 1, j0 (.iload 4), j0 (.iconst 2), j0 .iadd, j0 (.iload 2), j0 (.iconst 10), j0 .irem, j0 .iastore, j0 (.aload 0), j3 (.getfield 0) 12 1 1, j0 (.iload 4), j0 (.iconst 3)],
  [j0 .iadd, j0 (.iload 3), j0 .iastore, j0 (.aload 0), j3 (.getfield 0) 12 1 1, j0 (.iconst 4), j0 .dup2, j0 .iaload, j0 (.iconst 1), j0 .iadd, j0 .iastore, j0 (.aload 0), j0 .dup, j3 (.getfield 4) 12 0 0, j0 (.iconst 1), j0 .iadd],
  [j3 (.putfield 4) 12 0 0, j0 (.aload 0), j3 (.getfield 0) 12 1 1, j0 (.iconst 4), j0 .iaload, j0 (.iconst 1), j0 .isub, j1 .ireturn 0]]
/-- 222 WhoSignsModel.told(II)I -/
def mj_k222 : List (List mj_Ins) := [[j0 (.aload 0), j0 (.iload 1), j3 (.invokestatic 223) 2 1 13, j1 (.ifCond .eq 0) 9, j0 (.iload 2), j0 (.iconst 0), j0 (.iconst 5), j3 (.invokestatic 196) 3 1 0, j1 (.ifCond .ne 0) 11, j0 (.iconst (-1000000001)), j1 .ireturn 0, j0 (.iload 2), j0 (.iconst 4), j1 (.if_icmp .ge 0) 19, j0 (.aload 0), j0 (.iload 1)],
  [j0 (.iload 2), j3 (.invokestatic 224) 3 1 13, j1 .ireturn 0, j0 (.aload 0), j3 (.invokestatic 225) 1 0 13, j0 (.iload 2), j0 (.iconst 4), j1 (.if_icmp .ne 0) 34, j0 (.aload 0), j0 (.iload 1), j0 (.iconst 0), j3 (.invokestatic 224) 3 1 13, j0 (.aload 0), j0 (.iload 1), j0 (.iconst 3), j3 (.invokestatic 224) 3 1 13],
  [j3 (.invokestatic 226) 2 1 0, j1 (.goto 0) 43, j0 (.aload 0), j0 (.iload 1), j0 (.aload 0), j3 (.getfield 6) 12 1 1, j3 (.invokestatic 227) 3 1 13, j1 (.ifCond .eq 0) 42, j0 (.iconst 1), j1 (.goto 0) 43, j0 (.iconst 0), j1 .ireturn 0]]
/-- 223 WhoSignsModel.isRule(I)Z -/
def mj_k223 : List (List mj_Ins) := [[j0 (.iload 1), j0 (.iconst 0), j0 (.aload 0), j3 (.getfield 0) 12 1 1, j0 (.iconst 4), j0 .iaload, j0 (.iconst 1), j0 .isub, j3 (.invokestatic 196) 3 1 0, j1 .ireturn 1]]
/-- 224 WhoSignsModel.rule4(II)I -/
def mj_k224 : List (List mj_Ins) := [[j0 (.aload 0), j3 (.getfield 0) 12 1 1, j0 (.iconst 88), j0 (.iconst 4), j0 (.iload 1), j0 .imul, j0 .iadd, j0 (.iload 2), j0 .iadd, j0 .iaload, j1 .ireturn 0]]
/-- 225 WhoSignsModel.signedOnes()V -/
def mj_k225 : List (List mj_Ins) := [[j0 (.iconst 0), j0 (.istore 1), j0 (.iload 1), j0 (.iconst 6), j1 (.if_icmp .ge 0) 23, j0 (.aload 0), j3 (.getfield 6) 12 1 1, j0 (.iload 1), j0 (.iload 1), j0 (.aload 0), j3 (.getfield 0) 12 1 1, j0 (.iconst 3), j0 .iaload, j1 (.if_icmp .ge 0) 19, j0 (.aload 0), j0 (.iload 1)],
  [j0 (.iconst 3), j3 (.invokestatic 214) 3 1 13, j1 (.goto 0) 20, j0 (.iconst (-1)), j0 .iastore, j0 (.iinc 1 1), j1 (.goto 0) 2, j0 .return_]]
/-- 226 WhoSignsModel.weightBy(II)I -/
def mj_k226 : List (List mj_Ins) := [[j0 (.iload 0), (.lookupswitch 0 #[], 22, 0, 0, [(1, 2), (2, 6), (3, 8), (4, 14), (5, 18)]), j0 (.iconst 1), j0 (.iload 1), j0 .iadd, j1 .ireturn 0, j0 (.iconst 4), j1 .ireturn 0, j0 (.iconst 2), j0 (.iconst 1), j0 (.iload 1), j0 .iadd, j0 .imul, j1 .ireturn 0, j0 (.iconst 4), j0 (.iload 1)],
  [j0 .iadd, j1 .ireturn 0, j0 (.iload 1), j0 (.iload 1), j0 .imul, j1 .ireturn 0, j0 (.iconst 1), j1 .ireturn 0]]
/-- 227 WhoSignsModel.keptBy(I[I)Z -/
def mj_k227 : List (List mj_Ins) := [[j0 (.aload 0), j0 (.iload 1), j0 (.iconst 0), j3 (.invokestatic 224) 3 1 13, j0 (.istore 3), j0 (.aload 0), j0 (.iload 1), j0 (.iconst 1), j3 (.invokestatic 224) 3 1 13, j0 (.istore 4), j0 (.aload 0), j0 (.iload 1), j0 (.iconst 2), j3 (.invokestatic 224) 3 1 13, j0 (.istore 5), j0 (.aload 0)],
  [j0 (.iload 1), j0 (.iconst 3), j3 (.invokestatic 224) 3 1 13, j0 (.istore 6), j0 (.iload 3), j0 (.iconst 5), j1 (.if_icmp .ne 0) 80, j0 (.iconst 0), j0 (.istore 7), j0 (.iload 4), j0 (.iload 5), j1 (.if_icmp .ge 0) 30, j0 (.iload 4), j1 (.goto 0) 31, j0 (.iload 5), j0 (.istore 8)],
  [j0 (.iload 8), j0 (.iload 4), j0 (.iload 5), j1 (.if_icmp .ge 0) 38, j0 (.iload 5), j1 (.goto 0) 39, j0 (.iload 4), j1 (.if_icmp .gt 0) 56, j0 (.aload 2), j0 (.iload 8), j0 .iaload, j1 (.ifCond .ge 0) 46, j0 (.iconst 1), j1 .ireturn 1, j0 (.iload 7), j0 (.iconst 1)],
  [j0 (.aload 2), j0 (.iload 8), j0 .iaload, j0 .ishl, j0 .ior, j0 (.istore 7), j0 (.iinc 8 1), j1 (.goto 0) 32, j0 (.iconst 0), j0 (.istore 8), j0 (.iconst 0), j0 (.istore 9), j0 (.iload 9), j0 (.iconst 7), j1 (.if_icmp .ge 0) 73, j0 (.iload 8)],
  [j0 (.iload 7), j0 (.iload 9), j0 .ishr, j0 (.iconst 1), j0 .iand, j0 .iadd, j0 (.istore 8), j0 (.iinc 9 1), j1 (.goto 0) 60, j0 (.iload 8), j0 (.iload 6), j1 (.if_icmp .lt 0) 78, j0 (.iconst 1), j1 (.goto 0) 79, j0 (.iconst 0), j1 .ireturn 1],
  [j0 (.aload 2), j0 (.iload 4), j0 .iaload, j0 (.istore 7), j0 (.aload 2), j0 (.iload 5), j0 .iaload, j0 (.istore 8), j0 (.iload 3), j1 (.ifCond .eq 0) 94, j0 (.iload 7), j1 (.ifCond .lt 0) 94, j0 (.iload 8), j1 (.ifCond .ge 0) 96, j0 (.iconst 1), j1 .ireturn 1],
  [j0 (.iload 3), j0 (.iconst 2), j1 (.if_icmp .ne 0) 106, j0 (.iload 7), j0 (.iload 8), j1 (.if_icmp .ne 0) 104, j0 (.iconst 1), j1 (.goto 0) 105, j0 (.iconst 0), j1 .ireturn 1, j0 (.iload 7), j0 (.iload 8), j1 (.if_icmp .ne 0) 111, j0 (.iconst 0), j1 .ireturn 1, j0 (.iload 3)],
  [j0 (.iconst 3), j1 (.if_icmp .ne 0) 132, j0 (.aload 0), j0 (.iload 7), j0 (.iconst 2), j3 (.invokestatic 200) 3 1 13, j1 (.ifCond .eq 0) 128, j0 (.aload 0), j0 (.iload 7), j0 (.iconst 2), j3 (.invokestatic 200) 3 1 13, j0 (.aload 0), j0 (.iload 8), j0 (.iconst 2), j3 (.invokestatic 200) 3 1 13, j1 (.if_icmp .eq 0) 130],
  [j0 (.iconst 1), j1 (.goto 0) 131, j0 (.iconst 0), j1 .ireturn 1, j0 (.iload 3), j0 (.iconst 4), j1 (.if_icmp .ne 0) 146, j0 (.aload 0), j0 (.iload 8), j0 (.iconst 1), j3 (.invokestatic 200) 3 1 13, j0 (.aload 0), j0 (.iload 7), j0 (.iconst 1), j3 (.invokestatic 200) 3 1 13, j0 (.iload 6)],
  [j0 .iadd, j1 (.if_icmp .lt 0) 148, j0 (.iconst 1), j1 (.goto 0) 149, j0 (.iconst 0), j1 .ireturn 1]]
/-- 228 WhoSignsModel.as(II)I -/
def mj_k228 : List (List mj_Ins) := [[j0 (.aload 0), j0 (.iload 1), j3 (.invokestatic 223) 2 1 13, j1 (.ifCond .eq 0) 9, j0 (.iload 2), j0 (.iconst 0), j0 (.iconst 5), j3 (.invokestatic 196) 3 1 0, j1 (.ifCond .ne 0) 11, j0 (.iconst (-1000000001)), j1 .ireturn 0, j0 (.aload 0), j0 (.iload 1), j0 (.iconst 0), j3 (.invokestatic 224) 3 1 13, j0 (.iload 2)],
  [j3 (.invokestatic 229) 2 1 0, j1 (.ifCond .eq 0) 23, j0 (.aload 0), j0 (.iload 1), j0 (.iconst 3), j3 (.invokestatic 224) 3 1 13, j1 (.goto 0) 24, j0 (.iconst (-1000000012)), j1 .ireturn 0]]
/-- 229 WhoSignsModel.isUnder(II)Z -/
def mj_k229 : List (List mj_Ins) := [[j0 (.iload 1), j1 (.ifCond .eq 0) 14, j0 (.iload 0), j0 (.iload 1), j1 (.if_icmp .eq 0) 14, j0 (.iload 1), j0 (.iconst 1), j1 (.if_icmp .ne 0) 16, j0 (.iload 0), j0 (.iconst 3), j1 (.if_icmp .eq 0) 14, j0 (.iload 0), j0 (.iconst 4), j1 (.if_icmp .ne 0) 16, j0 (.iconst 1), j1 (.goto 0) 17],
  [j0 (.iconst 0), j1 .ireturn 1]]
/-- 230 WhoSignsModel.turns(II)I -/
def mj_k230 : List (List mj_Ins) := [[j0 (.aload 0), j0 (.iload 1), j3 (.invokestatic 223) 2 1 13, j1 (.ifCond .eq 0) 9, j0 (.iload 2), j0 (.iconst 0), j0 (.iconst 5), j3 (.invokestatic 196) 3 1 0, j1 (.ifCond .ne 0) 11, j0 (.iconst (-1000000001)), j1 .ireturn 0, j0 (.aload 0), j0 (.iload 1), j0 (.iconst 0), j3 (.invokestatic 224) 3 1 13, j0 (.istore 3)],
  [j0 (.aload 0), j3 (.getfield 0) 12 1 1, j0 (.iconst 88), j0 (.iconst 4), j0 (.iload 1), j0 .imul, j0 .iadd, j0 (.iload 2), j0 .iastore, j0 (.aload 0), j0 .dup, j3 (.getfield 4) 12 0 0, j0 (.iconst 1), j0 .iadd, j3 (.putfield 4) 12 0 0, j0 (.iload 3)],
  [j1 .ireturn 0]]
/-- 231 WhoSignsModel.drop(I)I -/
def mj_k231 : List (List mj_Ins) := [[j0 (.aload 0), j0 (.iload 1), j3 (.invokestatic 223) 2 1 13, j1 (.ifCond .ne 0) 6, j0 (.iconst (-1000000001)), j1 .ireturn 0, j0 (.aload 0), j3 (.getfield 0) 12 1 1, j0 (.iconst 4), j0 .dup2, j0 .iaload, j0 (.iconst 1), j0 .isub, j0 .iastore, j0 (.iconst 88), j0 (.iconst 4)],
  [j0 (.iload 1), j0 .imul, j0 .iadd, j0 (.istore 2), j0 (.iload 2), j0 (.iconst 88), j0 (.iconst 4), j0 (.aload 0), j3 (.getfield 0) 12 1 1, j0 (.iconst 4), j0 .iaload, j0 .imul, j0 .iadd, j1 (.if_icmp .ge 0) 42, j0 (.aload 0), j3 (.getfield 0) 12 1 1],
  [j0 (.iload 2), j0 (.aload 0), j3 (.getfield 0) 12 1 1, j0 (.iload 2), j0 (.iconst 4), j0 .iadd, j0 .iaload, j0 .iastore, j0 (.iinc 2 1), j1 (.goto 0) 20, j0 (.aload 0), j0 .dup, j3 (.getfield 4) 12 0 0, j0 (.iconst 1), j0 .iadd, j3 (.putfield 4) 12 0 0],
  [j0 (.aload 0), j3 (.getfield 0) 12 1 1, j0 (.iconst 4), j0 .iaload, j1 .ireturn 0]]
/-- 232 WhoSignsModel.keeps(III)I -/
def mj_k232 : List (List mj_Ins) := [[j0 (.aload 0), j0 (.iload 1), j3 (.invokestatic 223) 2 1 13, j1 (.ifCond .eq 0) 12, j0 (.aload 0), j0 (.iload 2), j3 (.invokestatic 198) 2 1 13, j1 (.ifCond .eq 0) 12, j0 (.aload 0), j0 (.iload 3), j3 (.invokestatic 198) 2 1 13, j1 (.ifCond .ne 0) 14, j0 (.iconst (-1000000001)), j1 .ireturn 0, j0 (.iconst 0), j0 (.istore 4)],
  [j0 (.iload 4), j0 (.iconst 6), j1 (.if_icmp .ge 0) 42, j0 (.aload 0), j3 (.getfield 6) 12 1 1, j0 (.iload 4), j0 (.iload 4), j0 (.aload 0), j0 (.iload 1), j0 (.iconst 1), j3 (.invokestatic 224) 3 1 13, j1 (.if_icmp .ne 0) 30, j0 (.iload 2), j1 (.goto 0) 39, j0 (.iload 4), j0 (.aload 0)],
  [j0 (.iload 1), j0 (.iconst 2), j3 (.invokestatic 224) 3 1 13, j1 (.if_icmp .ne 0) 38, j0 (.iload 3), j1 (.goto 0) 39, j0 (.iconst (-1)), j0 .iastore, j0 (.iinc 4 1), j1 (.goto 0) 16, j0 (.aload 0), j0 (.iload 1), j0 (.aload 0), j3 (.getfield 6) 12 1 1, j3 (.invokestatic 227) 3 1 13, j1 (.ifCond .eq 0) 50],
  [j0 (.iconst 1), j1 (.goto 0) 51, j0 (.iconst 0), j1 .ireturn 0]]
/-- 233 WhoSignsModel.feed(III)I -/
def mj_k233 : List (List mj_Ins) := [[j0 (.aload 0), j3 (.getfield 8) 12 0 0, j0 (.iconst 12), j0 .iadd, j0 (.iconst 96), j1 (.if_icmp .le 0) 8, j0 (.iconst (-1000000003)), j1 .ireturn 0, j0 (.iconst 0), j0 (.istore 4), j0 (.iload 4), j0 (.iconst 12), j1 (.if_icmp .ge 0) 45, j0 (.iload 4), j0 (.iconst 4), j1 (.if_icmp .ge 0) 18],
  [j0 (.iload 1), j1 (.goto 0) 24, j0 (.iload 4), j0 (.iconst 8), j1 (.if_icmp .ge 0) 23, j0 (.iload 2), j1 (.goto 0) 24, j0 (.iload 3), j0 (.istore 5), j0 (.aload 0), j3 (.getfield 7) 12 1 1, j0 (.aload 0), j3 (.getfield 8) 12 0 0, j0 (.iload 4), j0 .iadd, j0 (.iload 5)],
  [j0 (.iconst 24), j0 (.iconst 8), j0 (.iload 4), j0 (.iconst 4), j0 .irem, j0 .imul, j0 .isub, j0 .ishr, j0 (.iconst 255), j0 .iand, j0 .iastore, j0 (.iinc 4 1), j1 (.goto 0) 10, j0 (.aload 0), j0 .dup, j3 (.getfield 8) 12 0 0],
  [j0 (.iconst 12), j0 .iadd, j3 (.putfield 8) 12 0 0, j0 (.aload 0), j3 (.getfield 8) 12 0 0, j1 .ireturn 0]]
/-- 234 WhoSignsModel.trim(I)I -/
def mj_k234 : List (List mj_Ins) := [[j0 (.iload 1), j0 (.iconst 0), j0 (.aload 0), j3 (.getfield 8) 12 0 0, j3 (.invokestatic 196) 3 1 0, j1 (.ifCond .ne 0) 8, j0 (.iconst (-1000000001)), j1 .ireturn 0, j0 (.aload 0), j0 (.iload 1), j3 (.putfield 8) 12 0 0, j0 (.iload 1), j1 .ireturn 0]]
/-- 235 WhoSignsModel.text()I -/
def mj_k235 : List (List mj_Ins) := [[j0 (.aload 0), j0 (.iconst 0), j3 (.putfield 9) 12 0 0, j0 (.aload 0), j0 (.iconst (-1)), j3 (.putfield 13) 12 0 0, j0 (.aload 0), j3 (.invokestatic 236) 1 0 13, j0 (.aload 0), j3 (.invokestatic 239) 1 1 13, j1 (.ifCond .eq 0) 16, j0 (.aload 0), j3 (.invokestatic 240) 1 1 13, j1 (.ifCond .eq 0) 16, j0 (.iconst 1), j1 (.goto 0) 17],
  [j0 (.iconst 0), j0 (.istore 1), j0 (.aload 0), j0 (.iconst 0), j3 (.putfield 8) 12 0 0, j0 (.iload 1), j1 (.ifCond .ne 0) 28, j0 (.iconst (-100)), j0 (.aload 0), j3 (.getfield 10) 12 0 0, j0 .isub, j1 .ireturn 0, j0 (.aload 0), j3 (.getfield 0) 12 1 1, j0 (.iconst 5), j0 .iaload],
  [j0 (.iconst 14), j1 (.if_icmp .ne 0) 36, j0 (.iconst (-1000000003)), j1 .ireturn 0, j0 (.aload 0), j3 (.getfield 0) 12 1 1, j0 (.iconst 5), j0 .iaload, j0 (.istore 2), j0 (.aload 0), j3 (.getfield 0) 12 1 1, j0 (.iconst 238), j0 (.iconst 2), j0 (.iload 2), j0 .imul, j0 .iadd],
  [j0 (.iconst 1000), j0 (.aload 0), j3 (.getfield 14) 12 0 0, j0 .imul, j0 (.aload 0), j3 (.getfield 18) 12 0 0, j0 .iadd, j0 .iastore, j0 (.aload 0), j3 (.getfield 0) 12 1 1, j0 (.iconst 238), j0 (.iconst 2), j0 (.iload 2), j0 .imul, j0 .iadd, j0 (.iconst 1)],
  [j0 .iadd, j0 (.aload 0), j3 (.getfield 19) 12 0 0, j0 .iastore, j0 (.iconst 0), j0 (.istore 3), j0 (.iload 3), j0 (.aload 0), j3 (.getfield 18) 12 0 0, j1 (.if_icmp .ge 0) 90, j0 (.aload 0), j3 (.getfield 0) 12 1 1, j0 (.iconst 266), j0 (.iconst 96), j0 (.iload 2), j0 .imul],
  [j0 .iadd, j0 (.iload 3), j0 .iadd, j0 (.aload 0), j3 (.getfield 17) 12 1 1, j0 (.iload 3), j0 .iaload, j0 .iastore, j0 (.iinc 3 1), j1 (.goto 0) 70, j0 (.aload 0), j3 (.getfield 0) 12 1 1, j0 (.iconst 5), j0 .dup2, j0 .iaload, j0 (.iconst 1)],
  [j0 .iadd, j0 .iastore, j0 (.aload 0), j0 .dup, j3 (.getfield 4) 12 0 0, j0 (.iconst 1), j0 .iadd, j3 (.putfield 4) 12 0 0, j0 (.iload 2), j1 .ireturn 0]]
/-- 236 WhoSignsModel.go()V -/
def mj_k236 : List (List mj_Ins) := [[j0 (.aload 0), j3 (.getfield 9) 12 0 0, j0 (.aload 0), j3 (.getfield 8) 12 0 0, j1 (.if_icmp .ge 0) 19, j0 (.aload 0), j3 (.getfield 7) 12 1 1, j0 (.aload 0), j3 (.getfield 9) 12 0 0, j0 .iaload, j0 (.iconst 32), j1 (.if_icmp .ne 0) 19, j0 (.aload 0), j0 .dup, j3 (.getfield 9) 12 0 0, j0 (.iconst 1)],
  [j0 .iadd, j3 (.putfield 9) 12 0 0, j1 (.goto 0) 0, j0 (.aload 0), j0 (.aload 0), j3 (.getfield 9) 12 0 0, j3 (.putfield 10) 12 0 0, j0 (.aload 0), j3 (.getfield 10) 12 0 0, j0 (.aload 0), j3 (.getfield 13) 12 0 0, j1 (.if_icmp .ne 0) 30, j0 (.iconst 1), j1 (.goto 0) 31, j0 (.iconst 0), j0 (.istore 1)],
  [j0 (.aload 0), j3 (.getfield 10) 12 0 0, j0 (.aload 0), j3 (.getfield 8) 12 0 0, j1 (.if_icmp .ne 0) 41, j0 (.aload 0), j0 (.iconst 0), j3 (.putfield 11) 12 0 0, j1 (.goto 0) 156, j0 (.aload 0), j0 (.aload 0), j3 (.getfield 10) 12 0 0, j3 (.invokestatic 237) 2 1 13, j1 (.ifCond .eq 0) 77, j0 (.aload 0), j0 (.aload 0)],
  [j3 (.getfield 9) 12 0 0, j3 (.invokestatic 237) 2 1 13, j1 (.ifCond .eq 0) 58, j0 (.aload 0), j0 .dup, j3 (.getfield 9) 12 0 0, j0 (.iconst 1), j0 .iadd, j3 (.putfield 9) 12 0 0, j1 (.goto 0) 46, j0 (.aload 0), j0 (.iload 1), j1 (.ifCond .eq 0) 63, j0 (.iconst 4), j1 (.goto 0) 64, j0 (.iconst 1)],
  [j3 (.putfield 11) 12 0 0, j0 (.aload 0), j0 (.aload 0), j3 (.getfield 7) 12 1 1, j0 (.aload 0), j3 (.getfield 10) 12 0 0, j0 .iaload, j3 (.putfield 12) 12 0 0, j0 (.aload 0), j0 (.aload 0), j3 (.getfield 9) 12 0 0, j3 (.putfield 13) 12 0 0, j1 (.goto 0) 156, j0 (.aload 0), j0 (.aload 0), j3 (.getfield 10) 12 0 0],
  [j3 (.invokestatic 238) 2 1 13, j1 (.ifCond .eq 0) 140, j0 (.aload 0), j0 (.iconst 0), j3 (.putfield 12) 12 0 0, j0 (.aload 0), j0 (.aload 0), j3 (.getfield 9) 12 0 0, j3 (.invokestatic 238) 2 1 13, j1 (.ifCond .eq 0) 121, j0 (.aload 0), j0 (.aload 0), j3 (.getfield 9) 12 0 0, j0 (.aload 0), j3 (.getfield 10) 12 0 0, j0 .isub],
  [j0 (.iconst 4), j1 (.if_icmp .ge 0) 111, j0 (.iconst 10), j0 (.aload 0), j3 (.getfield 12) 12 0 0, j0 .imul, j0 (.aload 0), j3 (.getfield 7) 12 1 1, j0 (.aload 0), j3 (.getfield 9) 12 0 0, j0 .iaload, j0 .iadd, j0 (.iconst 48), j0 .isub, j1 (.goto 0) 113, j0 (.aload 0)],
  [j3 (.getfield 12) 12 0 0, j3 (.putfield 12) 12 0 0, j0 (.aload 0), j0 .dup, j3 (.getfield 9) 12 0 0, j0 (.iconst 1), j0 .iadd, j3 (.putfield 9) 12 0 0, j1 (.goto 0) 85, j0 (.aload 0), j0 (.iload 1), j1 (.ifCond .ne 0) 131, j0 (.aload 0), j3 (.getfield 9) 12 0 0, j0 (.aload 0), j3 (.getfield 10) 12 0 0],
  [j0 .isub, j0 (.iconst 4), j1 (.if_icmp .le 0) 133, j0 (.iconst 4), j1 (.goto 0) 134, j0 (.iconst 2), j3 (.putfield 11) 12 0 0, j0 (.aload 0), j0 (.aload 0), j3 (.getfield 9) 12 0 0, j3 (.putfield 13) 12 0 0, j1 (.goto 0) 156, j0 (.aload 0), j0 (.iconst 3), j3 (.putfield 11) 12 0 0, j0 (.aload 0)],
  [j0 (.aload 0), j3 (.getfield 7) 12 1 1, j0 (.aload 0), j3 (.getfield 10) 12 0 0, j0 .iaload, j3 (.putfield 12) 12 0 0, j0 (.aload 0), j0 .dup, j3 (.getfield 9) 12 0 0, j0 (.iconst 1), j0 .iadd, j3 (.putfield 9) 12 0 0, j0 .return_]]
/-- 237 WhoSignsModel.isLetter(I)Z -/
def mj_k237 : List (List mj_Ins) := [[j0 (.iload 1), j0 (.aload 0), j3 (.getfield 8) 12 0 0, j1 (.if_icmp .ge 0) 18, j0 (.aload 0), j3 (.getfield 7) 12 1 1, j0 (.iload 1), j0 .iaload, j0 (.iconst 97), j1 (.if_icmp .lt 0) 18, j0 (.aload 0), j3 (.getfield 7) 12 1 1, j0 (.iload 1), j0 .iaload, j0 (.iconst 122), j1 (.if_icmp .gt 0) 18],
  [j0 (.iconst 1), j1 (.goto 0) 19, j0 (.iconst 0), j1 .ireturn 1]]
/-- 238 WhoSignsModel.isFigure(I)Z -/
def mj_k238 : List (List mj_Ins) := [[j0 (.iload 1), j0 (.aload 0), j3 (.getfield 8) 12 0 0, j1 (.if_icmp .ge 0) 18, j0 (.aload 0), j3 (.getfield 7) 12 1 1, j0 (.iload 1), j0 .iaload, j0 (.iconst 48), j1 (.if_icmp .lt 0) 18, j0 (.aload 0), j3 (.getfield 7) 12 1 1, j0 (.iload 1), j0 .iaload, j0 (.iconst 57), j1 (.if_icmp .gt 0) 18],
  [j0 (.iconst 1), j1 (.goto 0) 19, j0 (.iconst 0), j1 .ireturn 1]]
/-- 239 WhoSignsModel.takesKey()Z -/
def mj_k239 : List (List mj_Ins) := [[j0 (.aload 0), j3 (.getfield 11) 12 0 0, j0 (.iconst 1), j1 (.if_icmp .eq 0) 6, j0 (.iconst 0), j1 .ireturn 1, j0 (.iconst 0), j0 (.istore 1), j0 (.iload 1), j0 (.iconst 3), j1 (.if_icmp .ge 0) 75, j0 (.aload 0), j3 (.getfield 16) 12 1 1, j0 (.iload 1), j0 (.iconst 1), j0 .iadd],
  [j0 .iaload, j0 (.aload 0), j3 (.getfield 16) 12 1 1, j0 (.iload 1), j0 .iaload, j0 .isub, j0 (.istore 2), j0 (.iload 2), j0 (.aload 0), j3 (.getfield 9) 12 0 0, j0 (.aload 0), j3 (.getfield 10) 12 0 0, j0 .isub, j1 (.if_icmp .ne 0) 32, j0 (.iconst 1), j1 (.goto 0) 33],
  [j0 (.iconst 0), j0 (.istore 3), j0 (.iconst 0), j0 (.istore 4), j0 (.iload 4), j0 (.iload 2), j1 (.if_icmp .ge 0) 64, j0 (.iload 3), j1 (.ifCond .eq 0) 64, j0 (.aload 0), j3 (.getfield 7) 12 1 1, j0 (.aload 0), j3 (.getfield 10) 12 0 0, j0 (.iload 4), j0 .iadd, j0 .iaload],
  [j0 (.aload 0), j3 (.getfield 15) 12 1 1, j0 (.aload 0), j3 (.getfield 16) 12 1 1, j0 (.iload 1), j0 .iaload, j0 (.iload 4), j0 .iadd, j0 .caload, j1 (.if_icmp .ne 0) 60, j0 (.iconst 1), j1 (.goto 0) 61, j0 (.iconst 0), j0 (.istore 3), j0 (.iinc 4 1), j1 (.goto 0) 36],
  [j0 (.iload 3), j1 (.ifCond .eq 0) 73, j0 (.aload 0), j0 (.iload 1), j3 (.putfield 14) 12 0 0, j0 (.aload 0), j3 (.invokestatic 236) 1 0 13, j0 (.iconst 1), j1 .ireturn 1, j0 (.iinc 1 1), j1 (.goto 0) 8, j0 (.iconst 0), j1 .ireturn 1]]
/-- 240 WhoSignsModel.takesE()Z -/
def mj_k240 : List (List mj_Ins) := [[j0 (.iconst 0), j0 (.istore 1), j0 (.iconst 0), j0 (.istore 2), j0 (.iconst 1), j0 (.istore 3), j0 (.aload 0), j0 (.iconst 0), j3 (.putfield 18) 12 0 0, j0 (.aload 0), j0 (.iconst 0), j3 (.putfield 19) 12 0 0, j0 (.aload 0), j0 (.iconst 0), j3 (.putfield 21) 12 0 0, j0 (.aload 0)],
  [j3 (.getfield 22) 12 1 1, j0 (.iconst 0), j0 (.iconst 0), j0 .sastore, j0 (.iload 3), j1 (.ifCond .ne 0) 25, j0 (.aload 0), j3 (.getfield 11) 12 0 0, j1 (.ifCond .eq 0) 184, j0 (.iload 3), j1 (.ifCond .eq 0) 98, j0 (.aload 0), j3 (.getfield 11) 12 0 0, j0 (.iconst 3), j1 (.if_icmp .ne 0) 54, j0 (.aload 0)],
  [j3 (.getfield 12) 12 0 0, j0 (.iconst 33), j1 (.if_icmp .ne 0) 54, j0 (.iload 2), j0 (.iconst 8), j1 (.if_icmp .ge 0) 54, j0 (.aload 0), j3 (.getfield 20) 12 1 1, j0 (.aload 0), j3 (.getfield 21) 12 0 0, j0 (.iconst (-10)), j0 .iastore, j0 (.aload 0), j0 .dup, j3 (.getfield 21) 12 0 0, j0 (.iconst 1)],
  [j0 .iadd, j3 (.putfield 21) 12 0 0, j0 (.iinc 2 1), j0 (.aload 0), j3 (.invokestatic 236) 1 0 13, j1 (.goto 0) 94, j0 (.aload 0), j3 (.getfield 11) 12 0 0, j0 (.iconst 3), j1 (.if_icmp .ne 0) 86, j0 (.aload 0), j3 (.getfield 12) 12 0 0, j0 (.iconst 40), j1 (.if_icmp .ne 0) 86, j0 (.iload 1), j0 (.iconst 8)],
  [j1 (.if_icmp .ge 0) 86, j0 (.aload 0), j3 (.getfield 20) 12 1 1, j0 (.aload 0), j3 (.getfield 21) 12 0 0, j0 (.iconst (-11)), j0 .iastore, j0 (.aload 0), j0 .dup, j3 (.getfield 21) 12 0 0, j0 (.iconst 1), j0 .iadd, j3 (.putfield 21) 12 0 0, j0 (.iinc 1 1), j0 (.aload 0), j3 (.getfield 22) 12 1 1],
  [j0 (.iload 1), j0 (.iconst 0), j0 .sastore, j0 (.aload 0), j3 (.invokestatic 236) 1 0 13, j1 (.goto 0) 94, j0 (.aload 0), j3 (.invokestatic 241) 1 1 13, j1 (.ifCond .eq 0) 92, j0 (.iconst 0), j0 (.istore 3), j1 (.goto 0) 94, j0 (.iconst 0), j1 .ireturn 1, j0 (.aload 0), j3 (.invokestatic 245) 1 1 13],
  [j0 (.istore 2), j1 (.goto 0) 20, j0 (.aload 0), j3 (.getfield 11) 12 0 0, j0 (.iconst 3), j1 (.if_icmp .ne 0) 127, j0 (.aload 0), j3 (.getfield 12) 12 0 0, j0 (.iconst 41), j1 (.if_icmp .ne 0) 127, j0 (.iload 1), j1 (.ifCond .le 0) 127, j0 (.aload 0), j0 (.iconst 0), j3 (.invokestatic 243) 2 0 13, j0 (.aload 0)],
  [j0 .dup, j3 (.getfield 21) 12 0 0, j0 (.iconst 1), j0 .isub, j3 (.putfield 21) 12 0 0, j0 (.iinc 1 (-1)), j0 (.aload 0), j0 (.iconst 6), j3 (.invokestatic 243) 2 0 13, j0 (.aload 0), j3 (.invokestatic 245) 1 1 13, j0 (.istore 2), j0 (.aload 0), j3 (.invokestatic 236) 1 0 13, j1 (.goto 0) 20, j0 (.aload 0)],
  [j3 (.invokestatic 246) 1 1 13, j0 (.istore 4), j0 (.iload 4), j1 (.ifCond .eq 0) 141, j0 (.iload 4), j3 (.invokestatic 244) 1 1 0, j0 (.iconst 3), j1 (.if_icmp .ne 0) 143, j0 (.aload 0), j3 (.getfield 22) 12 1 1, j0 (.iload 1), j0 .saload, j1 (.ifCond .eq 0) 143, j0 (.iconst 0), j1 .ireturn 1, j0 (.aload 0)],
  [j3 (.getfield 22) 12 1 1, j0 (.iload 1), j0 (.iload 4), j3 (.invokestatic 244) 1 1 0, j0 (.iconst 3), j1 (.if_icmp .eq 0) 159, j0 (.iload 4), j3 (.invokestatic 244) 1 1 0, j0 (.iconst 3), j1 (.if_icmp .le 0) 161, j0 (.aload 0), j3 (.getfield 22) 12 1 1, j0 (.iload 1), j0 .saload, j1 (.ifCond .eq 0) 161, j0 (.iconst 1)],
  [j1 (.goto 0) 162, j0 (.iconst 0), j0 .sastore, j0 (.aload 0), j0 (.iload 4), j3 (.invokestatic 244) 1 1 0, j3 (.invokestatic 243) 2 0 13, j0 (.aload 0), j3 (.getfield 20) 12 1 1, j0 (.aload 0), j3 (.getfield 21) 12 0 0, j0 (.iload 4), j0 .iastore, j0 (.aload 0), j0 .dup, j3 (.getfield 21) 12 0 0],
  [j0 (.iconst 1), j0 .iadd, j3 (.putfield 21) 12 0 0, j0 (.iconst 1), j0 (.istore 3), j0 (.aload 0), j3 (.invokestatic 236) 1 0 13, j1 (.goto 0) 20, j0 (.aload 0), j0 (.iconst 0), j3 (.invokestatic 243) 2 0 13, j0 (.iload 1), j1 (.ifCond .ne 0) 191, j0 (.iconst 1), j1 (.goto 0) 192, j0 (.iconst 0)],
  [j1 .ireturn 1]]
/-- 241 WhoSignsModel.takesPart()Z -/
def mj_k241 : List (List mj_Ins) := [[j0 (.aload 0), j3 (.getfield 11) 12 0 0, j0 (.iconst 1), j1 (.if_icmp .ne 0) 18, j0 (.aload 0), j3 (.getfield 9) 12 0 0, j0 (.aload 0), j3 (.getfield 10) 12 0 0, j0 .isub, j0 (.iconst 1), j1 (.if_icmp .ne 0) 18, j0 (.aload 0), j0 (.aload 0), j3 (.getfield 12) 12 0 0, j3 (.invokestatic 242) 2 1 13, j1 (.ifCond .lt 0) 18],
  [j0 (.iconst 1), j1 (.goto 0) 19, j0 (.iconst 0), j0 (.istore 1), j0 (.aload 0), j3 (.getfield 11) 12 0 0, j0 (.iconst 2), j1 (.if_icmp .eq 0) 28, j0 (.iload 1), j1 (.ifCond .ne 0) 28, j0 (.iconst 0), j1 .ireturn 1, j0 (.aload 0), j3 (.getfield 17) 12 1 1, j0 (.aload 0), j3 (.getfield 18) 12 0 0],
  [j0 (.aload 0), j3 (.getfield 11) 12 0 0, j0 (.iconst 2), j1 (.if_icmp .ne 0) 39, j0 (.aload 0), j3 (.getfield 12) 12 0 0, j1 (.goto 0) 45, j0 (.iconst 10000), j0 (.aload 0), j0 (.aload 0), j3 (.getfield 12) 12 0 0, j3 (.invokestatic 242) 2 1 13, j0 .iadd, j0 .iastore, j0 (.aload 0), j0 .dup],
  [j3 (.getfield 18) 12 0 0, j0 (.iconst 1), j0 .iadd, j3 (.putfield 18) 12 0 0, j0 (.aload 0), j0 .dup, j3 (.getfield 19) 12 0 0, j0 (.iconst 1), j0 .iadd, j3 (.putfield 19) 12 0 0, j0 (.aload 0), j0 (.iconst 6), j3 (.invokestatic 243) 2 0 13, j0 (.aload 0), j3 (.invokestatic 236) 1 0 13, j0 (.iconst 1)],
  [j1 .ireturn 1]]
/-- 242 WhoSignsModel.nameOf(I)I -/
def mj_k242 : List (List mj_Ins) := [[j0 (.aload 0), j3 (.getfield 14) 12 0 0, (.lookupswitch 0 #[], 42, 0, 0, [(0, 3), (1, 25)]), j0 (.iload 1), j0 (.iconst 107), j1 (.if_icmp .ne 0) 8, j0 (.iconst 0), j1 (.goto 0) 24, j0 (.iload 1), j0 (.iconst 114), j1 (.if_icmp .ne 0) 13, j0 (.iconst 1), j1 (.goto 0) 24, j0 (.iload 1), j0 (.iconst 111), j1 (.if_icmp .ne 0) 18],
  [j0 (.iconst 2), j1 (.goto 0) 24, j0 (.iload 1), j0 (.iconst 100), j1 (.if_icmp .ne 0) 23, j0 (.iconst 3), j1 (.goto 0) 24, j0 (.iconst (-1)), j1 .ireturn 0, j0 (.iload 1), j0 (.iconst 114), j1 (.if_icmp .ne 0) 30, j0 (.iconst 0), j1 (.goto 0) 41, j0 (.iload 1), j0 (.iconst 111)],
  [j1 (.if_icmp .ne 0) 35, j0 (.iconst 1), j1 (.goto 0) 41, j0 (.iload 1), j0 (.iconst 109), j1 (.if_icmp .ne 0) 40, j0 (.iconst 2), j1 (.goto 0) 41, j0 (.iconst (-1)), j1 .ireturn 0, j0 (.iload 1), j0 (.iconst 114), j1 (.if_icmp .ne 0) 47, j0 (.iconst 0), j1 (.goto 0) 58, j0 (.iload 1)],
  [j0 (.iconst 111), j1 (.if_icmp .ne 0) 52, j0 (.iconst 1), j1 (.goto 0) 58, j0 (.iload 1), j0 (.iconst 100), j1 (.if_icmp .ne 0) 57, j0 (.iconst 2), j1 (.goto 0) 58, j0 (.iconst (-1)), j1 .ireturn 0]]
/-- 243 WhoSignsModel.settle(I)V -/
def mj_k243 : List (List mj_Ins) := [[j0 (.aload 0), j3 (.getfield 21) 12 0 0, j1 (.ifCond .le 0) 45, j0 (.aload 0), j3 (.getfield 20) 12 1 1, j0 (.aload 0), j3 (.getfield 21) 12 0 0, j0 (.iconst 1), j0 .isub, j0 .iaload, j0 (.iconst (-11)), j1 (.if_icmp .eq 0) 45, j0 (.aload 0), j3 (.getfield 20) 12 1 1, j0 (.aload 0), j3 (.getfield 21) 12 0 0],
  [j0 (.iconst 1), j0 .isub, j0 .iaload, j3 (.invokestatic 244) 1 1 0, j0 (.iload 1), j1 (.if_icmp .lt 0) 45, j0 (.aload 0), j0 .dup, j3 (.getfield 21) 12 0 0, j0 (.iconst 1), j0 .isub, j3 (.putfield 21) 12 0 0, j0 (.aload 0), j3 (.getfield 17) 12 1 1, j0 (.aload 0), j3 (.getfield 18) 12 0 0],
  [j0 (.aload 0), j3 (.getfield 20) 12 1 1, j0 (.aload 0), j3 (.getfield 21) 12 0 0, j0 .iaload, j0 .iastore, j0 (.aload 0), j0 .dup, j3 (.getfield 18) 12 0 0, j0 (.iconst 1), j0 .iadd, j3 (.putfield 18) 12 0 0, j1 (.goto 0) 0, j0 .return_]]
/-- 244 WhoSignsModel.rank(I)I -/
def mj_k244 : List (List mj_Ins) := [[j0 (.iload 0), j0 (.iconst (-1)), j1 (.if_icmp .ne 0) 5, j0 (.iconst 1), j1 (.goto 0) 26, j0 (.iload 0), j0 (.iconst (-2)), j1 (.if_icmp .ne 0) 10, j0 (.iconst 2), j1 (.goto 0) 26, j0 (.iload 0), j0 (.iconst (-5)), j1 (.if_icmp .lt 0) 15, j0 (.iconst 3), j1 (.goto 0) 26, j0 (.iload 0)],
  [j0 (.iconst (-7)), j1 (.if_icmp .lt 0) 20, j0 (.iconst 4), j1 (.goto 0) 26, j0 (.iload 0), j0 (.iconst (-9)), j1 (.if_icmp .lt 0) 25, j0 (.iconst 5), j1 (.goto 0) 26, j0 (.iconst 6), j1 .ireturn 0]]
/-- 245 WhoSignsModel.notsOpen()I -/
def mj_k245 : List (List mj_Ins) := [[j0 (.iconst 0), j0 (.istore 1), j0 (.iconst 0), j0 (.istore 2), j0 (.iload 2), j0 (.aload 0), j3 (.getfield 21) 12 0 0, j1 (.if_icmp .ge 0) 22, j0 (.iload 1), j0 (.aload 0), j3 (.getfield 20) 12 1 1, j0 (.iload 2), j0 .iaload, j0 (.iconst (-10)), j1 (.if_icmp .ne 0) 17, j0 (.iconst 1)],
  [j1 (.goto 0) 18, j0 (.iconst 0), j0 .iadd, j0 (.istore 1), j0 (.iinc 2 1), j1 (.goto 0) 4, j0 (.iload 1), j1 .ireturn 0]]
/-- 246 WhoSignsModel.signHere()I -/
def mj_k246 : List (List mj_Ins) := [[j0 (.aload 0), j3 (.getfield 11) 12 0 0, j0 (.iconst 3), j1 (.if_icmp .eq 0) 6, j0 (.iconst 0), j1 .ireturn 0, j0 (.aload 0), j3 (.getfield 12) 12 0 0, (.lookupswitch 0 #[], 27, 0, 0, [(38, 11), (42, 23), (43, 19), (45, 21), (47, 25), (60, 13), (61, 15), (62, 17), (124, 9)]), j0 (.iconst (-1)), j1 .ireturn 0, j0 (.iconst (-2)), j1 .ireturn 0, j0 (.iconst (-3)), j1 .ireturn 0, j0 (.iconst (-4))],
  [j1 .ireturn 0, j0 (.iconst (-5)), j1 .ireturn 0, j0 (.iconst (-6)), j1 .ireturn 0, j0 (.iconst (-7)), j1 .ireturn 0, j0 (.iconst (-8)), j1 .ireturn 0, j0 (.iconst (-9)), j1 .ireturn 0, j0 (.iconst 0), j1 .ireturn 0]]
/-- 247 WhoSignsModel.textTold(II)I -/
def mj_k247 : List (List mj_Ins) := [[j0 (.iload 1), j0 (.iconst 0), j0 (.aload 0), j3 (.getfield 0) 12 1 1, j0 (.iconst 5), j0 .iaload, j0 (.iconst 1), j0 .isub, j3 (.invokestatic 196) 3 1 0, j1 (.ifCond .eq 0) 15, j0 (.iload 2), j0 (.iconst 0), j0 (.iconst 1), j3 (.invokestatic 196) 3 1 0, j1 (.ifCond .ne 0) 17, j0 (.iconst (-1000000001))],
  [j1 .ireturn 0, j0 (.iload 2), j1 (.ifCond .ne 0) 30, j0 (.aload 0), j3 (.getfield 0) 12 1 1, j0 (.iconst 238), j0 (.iconst 2), j0 (.iload 1), j0 .imul, j0 .iadd, j0 .iaload, j0 (.iconst 1000), j0 .idiv, j1 (.goto 0) 40, j0 (.aload 0), j3 (.getfield 0) 12 1 1],
  [j0 (.iconst 238), j0 (.iconst 2), j0 (.iload 1), j0 .imul, j0 .iadd, j0 (.iconst 1), j0 .iadd, j0 .iaload, j1 .ireturn 0]]
/-- 248 WhoSignsModel.why(I)I -/
def mj_k248 : List (List mj_Ins) := [[j0 (.iload 1), j0 (.iconst 0), j0 (.iconst 2), j3 (.invokestatic 196) 3 1 0, j1 (.ifCond .ne 0) 7, j0 (.iconst (-1000000001)), j1 .ireturn 0, j0 (.aload 0), j0 (.iload 1), j3 (.invokestatic 203) 2 1 13, j0 (.istore 2), j0 (.iload 2), j1 (.ifCond .ge 0) 15, j0 (.iconst (-1000000005)), j1 (.goto 0) 16, j0 (.iload 2)],
  [j1 .ireturn 0]]
/-- 249 WhoSignsModel.ways(I)I -/
def mj_k249 : List (List mj_Ins) := [[j0 (.iload 1), j3 (.invokestatic 209) 1 1 0, j1 (.ifCond .ne 0) 5, j0 (.iconst (-1000000001)), j1 .ireturn 0, j0 (.aload 0), j0 (.iload 1), j3 (.invokestatic 250) 2 0 13, j0 (.aload 0), j3 (.getfield 28) 12 0 0, j1 .ireturn 0]]
/-- 250 WhoSignsModel.sweeps(I)V -/
def mj_k250 : List (List mj_Ins) := [[j0 (.aload 0), j3 (.getfield 26) 12 0 0, j0 (.iload 1), j1 (.if_icmp .ne 0) 10, j0 (.aload 0), j3 (.getfield 27) 12 0 0, j0 (.aload 0), j3 (.getfield 4) 12 0 0, j1 (.if_icmp .ne 0) 10, j0 .return_, j0 (.aload 0), j0 (.iload 1), j3 (.putfield 26) 12 0 0, j0 (.aload 0), j0 (.aload 0), j3 (.getfield 4) 12 0 0],
  [j3 (.putfield 27) 12 0 0, j0 (.aload 0), j0 (.iconst 0), j3 (.putfield 28) 12 0 0, j0 (.iconst 0), j0 (.istore 2), j0 (.iload 2), j0 (.iconst 7), j1 (.if_icmp .ge 0) 37, j0 (.aload 0), j3 (.getfield 33) 12 1 1, j0 (.iload 2), j0 (.iconst 0), j0 .iastore, j0 (.aload 0), j3 (.getfield 34) 12 1 1],
  [j0 (.iload 2), j0 (.iconst 0), j0 .iastore, j0 (.iinc 2 1), j1 (.goto 0) 22, j0 (.iconst 0), j0 (.istore 2), j0 (.iload 2), j0 (.aload 0), j3 (.getfield 0) 12 1 1, j0 (.iconst 3), j0 .iaload, j1 (.if_icmp .ge 0) 69, j0 (.iconst 0), j0 (.istore 3), j0 (.iload 3)],
  [j0 (.aload 0), j3 (.getfield 0) 12 1 1, j0 (.iconst 2), j0 .iaload, j1 (.if_icmp .ge 0) 67, j0 (.aload 0), j3 (.getfield 35) 12 1 1, j0 (.iconst 7), j0 (.iload 2), j0 .imul, j0 (.iload 3), j0 .iadd, j0 (.aload 0), j0 (.iload 3), j0 (.iload 2), j3 (.invokestatic 220) 3 1 13],
  [j0 .iastore, j0 (.iinc 3 1), j1 (.goto 0) 47, j0 (.iinc 2 1), j1 (.goto 0) 39, j0 (.aload 0), j0 (.iload 1), j0 (.iconst 0), j3 (.invokestatic 251) 3 0 13, j0 (.aload 0), j3 (.invokestatic 252) 1 0 13, j0 (.aload 0), j0 (.iconst 0), j3 (.invokestatic 253) 2 1 13, j0 (.istore 2), j0 (.iload 2)],
  [j1 (.ifCond .lt 0) 94, j0 (.aload 0), j3 (.invokestatic 255) 1 0 13, j0 (.iload 2), j1 (.ifCond .ne 0) 87, j0 (.iconst (-1)), j1 (.goto 0) 92, j0 (.aload 0), j0 (.iload 2), j0 (.iconst 1), j0 .isub, j3 (.invokestatic 253) 2 1 13, j0 (.istore 2), j1 (.goto 0) 79, j0 .return_]]
/-- 251 WhoSignsModel.findAble(II)V -/
def mj_k251 : List (List mj_Ins) := [[j0 (.iconst 0), j0 (.istore 3), j0 (.iload 3), j0 (.aload 0), j3 (.getfield 0) 12 1 1, j0 (.iconst 3), j0 .iaload, j1 (.if_icmp .ge 0) 70, j0 (.aload 0), j3 (.getfield 25) 12 1 1, j0 (.iload 3), j0 (.iconst 0), j0 .iastore, j0 (.iconst 0), j0 (.istore 4), j0 (.iload 4)],
  [j0 (.aload 0), j3 (.getfield 0) 12 1 1, j0 (.iconst 2), j0 .iaload, j1 (.if_icmp .ge 0) 68, j0 (.aload 0), j0 (.iload 3), j0 (.iconst 3), j3 (.invokestatic 214) 3 1 13, j1 (.ifCond .lt 0) 36, j0 (.aload 0), j0 (.iload 3), j0 (.iconst 3), j3 (.invokestatic 214) 3 1 13, j0 (.iload 4), j1 (.if_icmp .ne 0) 34],
  [j0 (.iconst 1), j1 (.goto 0) 51, j0 (.iconst 0), j1 (.goto 0) 51, j0 (.iload 2), j0 (.iload 4), j0 .ishr, j0 (.iconst 1), j0 .iand, j1 (.ifCond .ne 0) 50, j0 (.aload 0), j0 (.iload 4), j0 (.iload 3), j0 (.iload 1), j3 (.invokestatic 215) 4 1 13, j1 (.ifCond .eq 0) 50],
  [j0 (.iconst 1), j1 (.goto 0) 51, j0 (.iconst 0), j0 (.istore 5), j0 (.aload 0), j3 (.getfield 25) 12 1 1, j0 (.iload 3), j0 .dup2, j0 .iaload, j0 (.iload 5), j1 (.ifCond .eq 0) 63, j0 (.iconst 1), j0 (.iload 4), j0 .ishl, j1 (.goto 0) 64, j0 (.iconst 0)],
  [j0 .ior, j0 .iastore, j0 (.iinc 4 1), j1 (.goto 0) 15, j0 (.iinc 3 1), j1 (.goto 0) 2, j0 .return_]]
/-- 252 WhoSignsModel.begins()V -/
def mj_k252 : List (List mj_Ins) := [[j0 (.iconst 0), j0 (.istore 1), j0 (.iload 1), j0 (.iconst 6), j1 (.if_icmp .ge 0) 12, j0 (.aload 0), j3 (.getfield 6) 12 1 1, j0 (.iload 1), j0 (.iconst (-1)), j0 .iastore, j0 (.iinc 1 1), j1 (.goto 0) 2, j0 .return_]]
/-- 253 WhoSignsModel.goesOn(I)I -/
def mj_k253 : List (List mj_Ins) := [[j0 (.iload 1), j0 (.istore 2), j0 (.iload 2), j1 (.ifCond .lt 0) 63, j0 (.iload 2), j0 (.aload 0), j3 (.getfield 0) 12 1 1, j0 (.iconst 3), j0 .iaload, j1 (.if_icmp .ge 0) 63, j0 (.aload 0), j3 (.getfield 6) 12 1 1, j0 (.iload 2), j0 .iaload, j0 (.iconst 1), j0 .iadd],
  [j0 (.istore 3), j0 (.iload 3), j0 (.aload 0), j3 (.getfield 0) 12 1 1, j0 (.iconst 2), j0 .iaload, j1 (.if_icmp .ge 0) 34, j0 (.aload 0), j3 (.getfield 25) 12 1 1, j0 (.iload 2), j0 .iaload, j0 (.iload 3), j0 .ishr, j0 (.iconst 1), j0 .iand, j1 (.ifCond .ne 0) 34],
  [j0 (.iinc 3 1), j1 (.goto 0) 17, j0 (.iload 3), j0 (.aload 0), j3 (.getfield 0) 12 1 1, j0 (.iconst 2), j0 .iaload, j1 (.if_icmp .lt 0) 47, j0 (.aload 0), j3 (.getfield 6) 12 1 1, j0 (.iload 2), j0 (.iconst (-1)), j0 .iastore, j0 (.iinc 2 (-1)), j1 (.goto 0) 2, j0 (.aload 0)],
  [j3 (.getfield 6) 12 1 1, j0 (.iload 2), j0 (.iload 3), j0 .iastore, j0 (.aload 0), j0 (.iload 2), j3 (.invokestatic 254) 2 1 13, j1 (.ifCond .eq 0) 60, j0 (.iload 2), j0 (.iconst 1), j0 .iadd, j1 (.goto 0) 61, j0 (.iload 2), j0 (.istore 2), j1 (.goto 0) 2, j0 (.iload 2)],
  [j1 .ireturn 0]]
/-- 254 WhoSignsModel.fits(I)Z -/
def mj_k254 : List (List mj_Ins) := [[j0 (.iconst 0), j0 (.istore 2), j0 (.iload 2), j0 (.aload 0), j3 (.getfield 0) 12 1 1, j0 (.iconst 4), j0 .iaload, j1 (.if_icmp .ge 0) 40, j0 (.aload 0), j0 (.iload 2), j0 (.iconst 1), j3 (.invokestatic 224) 3 1 13, j0 (.aload 0), j0 (.iload 2), j0 (.iconst 2), j3 (.invokestatic 224) 3 1 13],
  [j1 (.if_icmp .le 0) 22, j0 (.aload 0), j0 (.iload 2), j0 (.iconst 1), j3 (.invokestatic 224) 3 1 13, j1 (.goto 0) 26, j0 (.aload 0), j0 (.iload 2), j0 (.iconst 2), j3 (.invokestatic 224) 3 1 13, j0 (.istore 3), j0 (.iload 3), j0 (.iload 1), j1 (.if_icmp .ne 0) 38, j0 (.aload 0), j0 (.iload 2)],
  [j0 (.aload 0), j3 (.getfield 6) 12 1 1, j3 (.invokestatic 227) 3 1 13, j1 (.ifCond .ne 0) 38, j0 (.iconst 0), j1 .ireturn 1, j0 (.iinc 2 1), j1 (.goto 0) 2, j0 (.iconst 1), j1 .ireturn 1]]
/-- 255 WhoSignsModel.notes()V -/
def mj_k255 : List (List mj_Ins) := [[j0 (.aload 0), j3 (.invokestatic 256) 1 1 13, j0 (.istore 1), j0 (.aload 0), j3 (.getfield 28) 12 0 0, j1 (.ifCond .ne 0) 9, j0 (.aload 0), j0 (.iload 1), j3 (.putfield 31) 12 0 0, j0 (.iconst 0), j0 (.istore 2), j0 (.iload 2), j0 (.iconst 6), j1 (.if_icmp .ge 0) 52, j0 (.aload 0), j3 (.getfield 29) 12 1 1],
  [j0 (.iload 2), j0 (.aload 0), j3 (.getfield 28) 12 0 0, j1 (.ifCond .ne 0) 25, j0 (.aload 0), j3 (.getfield 6) 12 1 1, j0 (.iload 2), j0 .iaload, j1 (.goto 0) 29, j0 (.aload 0), j3 (.getfield 29) 12 1 1, j0 (.iload 2), j0 .iaload, j0 .iastore, j0 (.aload 0), j3 (.getfield 30) 12 1 1],
  [j0 (.iload 2), j0 (.aload 0), j3 (.getfield 28) 12 0 0, j1 (.ifCond .eq 0) 40, j0 (.iload 1), j0 (.aload 0), j3 (.getfield 32) 12 0 0, j1 (.if_icmp .ge 0) 45, j0 (.aload 0), j3 (.getfield 6) 12 1 1, j0 (.iload 2), j0 .iaload, j1 (.goto 0) 49, j0 (.aload 0), j3 (.getfield 30) 12 1 1, j0 (.iload 2)],
  [j0 .iaload, j0 .iastore, j0 (.iinc 2 1), j1 (.goto 0) 11, j0 (.aload 0), j0 (.aload 0), j3 (.getfield 28) 12 0 0, j1 (.ifCond .eq 0) 60, j0 (.iload 1), j0 (.aload 0), j3 (.getfield 32) 12 0 0, j1 (.if_icmp .ge 0) 62, j0 (.iload 1), j1 (.goto 0) 64, j0 (.aload 0), j3 (.getfield 32) 12 0 0],
  [j3 (.putfield 32) 12 0 0, j0 (.iconst 0), j0 (.istore 2), j0 (.iload 2), j0 (.aload 0), j3 (.getfield 0) 12 1 1, j0 (.iconst 2), j0 .iaload, j1 (.if_icmp .ge 0) 127, j0 (.iconst 0), j0 (.istore 3), j0 (.iconst 0), j0 (.istore 4), j0 (.iload 4), j0 (.aload 0), j3 (.getfield 0) 12 1 1],
  [j0 (.iconst 3), j0 .iaload, j1 (.if_icmp .ge 0) 97, j0 (.iload 3), j0 (.aload 0), j3 (.getfield 6) 12 1 1, j0 (.iload 4), j0 .iaload, j0 (.iload 2), j1 (.if_icmp .ne 0) 92, j0 (.iconst 1), j1 (.goto 0) 93, j0 (.iconst 0), j0 .iadd, j0 (.istore 3), j0 (.iinc 4 1)],
  [j1 (.goto 0) 77, j0 (.aload 0), j3 (.getfield 33) 12 1 1, j0 (.iload 2), j0 .dup2, j0 .iaload, j0 (.iload 3), j1 (.ifCond .le 0) 106, j0 (.iconst 1), j1 (.goto 0) 107, j0 (.iconst 0), j0 .iadd, j0 .iastore, j0 (.aload 0), j3 (.getfield 34) 12 1 1, j0 (.iload 2)],
  [j0 (.iload 3), j0 (.aload 0), j3 (.getfield 34) 12 1 1, j0 (.iload 2), j0 .iaload, j1 (.if_icmp .le 0) 120, j0 (.iload 3), j1 (.goto 0) 124, j0 (.aload 0), j3 (.getfield 34) 12 1 1, j0 (.iload 2), j0 .iaload, j0 .iastore, j0 (.iinc 2 1), j1 (.goto 0) 67, j0 (.aload 0)],
  [j0 .dup, j3 (.getfield 28) 12 0 0, j0 (.iconst 1), j0 .iadd, j3 (.putfield 28) 12 0 0, j0 .return_]]
/-- 256 WhoSignsModel.costNow()I -/
def mj_k256 : List (List mj_Ins) := [[j0 (.iconst 0), j0 (.istore 1), j0 (.iconst 0), j0 (.istore 2), j0 (.iload 2), j0 (.aload 0), j3 (.getfield 0) 12 1 1, j0 (.iconst 3), j0 .iaload, j1 (.if_icmp .ge 0) 33, j0 (.iload 1), j0 (.aload 0), j0 (.iload 2), j0 (.iconst 3), j3 (.invokestatic 214) 3 1 13, j1 (.ifCond .lt 0) 18],
  [j0 (.iconst 0), j1 (.goto 0) 29, j0 (.aload 0), j3 (.getfield 35) 12 1 1, j0 (.iconst 7), j0 (.iload 2), j0 .imul, j0 (.aload 0), j3 (.getfield 6) 12 1 1, j0 (.iload 2), j0 .iaload, j0 .iadd, j0 .iaload, j0 .iadd, j0 (.istore 1), j0 (.iinc 2 1)],
  [j1 (.goto 0) 4, j0 (.iload 1), j1 .ireturn 0]]
/-- 257 WhoSignsModel.way(II)I -/
def mj_k257 : List (List mj_Ins) := [[j0 (.iload 1), j0 (.iconst 0), j0 (.iconst 1), j3 (.invokestatic 196) 3 1 0, j1 (.ifCond .eq 0) 15, j0 (.iload 2), j0 (.iconst (-1)), j0 (.aload 0), j3 (.getfield 0) 12 1 1, j0 (.iconst 3), j0 .iaload, j0 (.iconst 1), j0 .isub, j3 (.invokestatic 196) 3 1 0, j1 (.ifCond .ne 0) 17, j0 (.iconst (-1000000001))],
  [j1 .ireturn 0, j0 (.aload 0), j0 (.aload 0), j3 (.getfield 0) 12 1 1, j0 (.iconst 1), j0 .iaload, j3 (.invokestatic 250) 2 0 13, j0 (.aload 0), j3 (.getfield 28) 12 0 0, j1 (.ifCond .ne 0) 28, j0 (.iconst (-1000000005)), j1 .ireturn 0, j0 (.iload 2), j1 (.ifCond .ge 0) 38, j0 (.iload 1), j1 (.ifCond .ne 0) 35],
  [j0 (.aload 0), j3 (.getfield 31) 12 0 0, j1 (.goto 0) 37, j0 (.aload 0), j3 (.getfield 32) 12 0 0, j1 .ireturn 0, j0 (.iload 1), j1 (.ifCond .ne 0) 45, j0 (.aload 0), j3 (.getfield 29) 12 1 1, j0 (.iload 2), j0 .iaload, j1 (.goto 0) 49, j0 (.aload 0), j3 (.getfield 30) 12 1 1, j0 (.iload 2)],
  [j0 .iaload, j1 .ireturn 0]]
/-- 258 WhoSignsModel.must(I)I -/
def mj_k258 : List (List mj_Ins) := [[j0 (.aload 0), j0 (.iload 1), j3 (.invokestatic 198) 2 1 13, j1 (.ifCond .ne 0) 6, j0 (.iconst (-1000000001)), j1 .ireturn 0, j0 (.aload 0), j0 (.aload 0), j3 (.getfield 0) 12 1 1, j0 (.iconst 1), j0 .iaload, j3 (.invokestatic 250) 2 0 13, j0 (.aload 0), j3 (.getfield 33) 12 1 1, j0 (.iload 1), j0 .iaload],
  [j1 (.ifCond .ne 0) 19, j0 (.iconst 0), j1 (.goto 0) 29, j0 (.aload 0), j3 (.getfield 33) 12 1 1, j0 (.iload 1), j0 .iaload, j0 (.aload 0), j3 (.getfield 28) 12 0 0, j1 (.if_icmp .ne 0) 28, j0 (.iconst 2), j1 (.goto 0) 29, j0 (.iconst 1), j1 .ireturn 0]]
/-- 259 WhoSignsModel.sly(I)I -/
def mj_k259 : List (List mj_Ins) := [[j0 (.aload 0), j0 (.iload 1), j3 (.invokestatic 198) 2 1 13, j1 (.ifCond .ne 0) 6, j0 (.iconst (-1000000001)), j1 .ireturn 0, j0 (.aload 0), j0 (.aload 0), j3 (.getfield 0) 12 1 1, j0 (.iconst 1), j0 .iaload, j3 (.invokestatic 250) 2 0 13, j0 (.aload 0), j3 (.getfield 28) 12 0 0, j1 (.ifCond .ne 0) 17, j0 (.iconst (-1000000005))],
  [j1 (.goto 0) 21, j0 (.aload 0), j3 (.getfield 34) 12 1 1, j0 (.iload 1), j0 .iaload, j1 .ireturn 0]]
/-- 260 WhoSignsModel.missing()I -/
def mj_k260 : List (List mj_Ins) := [[j0 (.aload 0), j0 (.aload 0), j3 (.getfield 0) 12 1 1, j0 (.iconst 1), j0 .iaload, j0 (.iconst 0), j3 (.invokestatic 261) 3 1 13, j1 (.ifCond .ne 0) 10, j0 (.iconst (-1000000002)), j1 .ireturn 0, j0 (.iconst (-1)), j0 (.istore 1), j0 (.iconst 1), j0 (.istore 2), j0 (.iload 2), j0 (.iconst 1)],
  [j0 (.aload 0), j3 (.getfield 0) 12 1 1, j0 (.iconst 2), j0 .iaload, j0 .ishl, j1 (.if_icmp .ge 0) 41, j0 (.iload 1), j1 (.ifCond .lt 0) 29, j0 (.iload 2), j3 (.invokestatic 262) 1 1 0, j0 (.iload 1), j3 (.invokestatic 262) 1 1 0, j1 (.if_icmp .ge 0) 39, j0 (.aload 0), j0 (.aload 0), j3 (.getfield 0) 12 1 1],
  [j0 (.iconst 1), j0 .iaload, j0 (.iload 2), j3 (.invokestatic 261) 3 1 13, j1 (.ifCond .ne 0) 39, j0 (.iload 2), j0 (.istore 1), j0 (.iinc 2 1), j1 (.goto 0) 14, j0 (.iload 1), j3 (.invokestatic 201) 1 1 0, j1 .ireturn 0]]
/-- 261 WhoSignsModel.hasWay(II)Z -/
def mj_k261 : List (List mj_Ins) := [[j0 (.aload 0), j0 (.iload 1), j0 (.iload 2), j3 (.invokestatic 251) 3 0 13, j0 (.aload 0), j3 (.invokestatic 252) 1 0 13, j0 (.aload 0), j0 (.iconst 0), j3 (.invokestatic 253) 2 1 13, j1 (.ifCond .lt 0) 12, j0 (.iconst 1), j1 (.goto 0) 13, j0 (.iconst 0), j1 .ireturn 1]]
/-- 262 WhoSignsModel.ones(I)I -/
def mj_k262 : List (List mj_Ins) := [[j0 (.iconst 0), j0 (.istore 1), j0 (.iconst 0), j0 (.istore 2), j0 (.iload 2), j0 (.iconst 7), j1 (.if_icmp .ge 0) 17, j0 (.iload 1), j0 (.iload 0), j0 (.iload 2), j0 .ishr, j0 (.iconst 1), j0 .iand, j0 .iadd, j0 (.istore 1), j0 (.iinc 2 1)],
  [j1 (.goto 0) 4, j0 (.iload 1), j1 .ireturn 0]]
/-- 263 WhoSignsModel.bears(I)I -/
def mj_k263 : List (List mj_Ins) := [[j0 (.iload 1), j0 (.iconst 0), j0 (.aload 0), j3 (.getfield 0) 12 1 1, j0 (.iconst 2), j0 .iaload, j3 (.invokestatic 196) 3 1 0, j1 (.ifCond .ne 0) 10, j0 (.iconst (-1000000001)), j1 .ireturn 0, j0 (.aload 0), j0 (.iload 1), j3 (.invokestatic 264) 2 1 13, j1 (.ifCond .eq 0) 16, j0 (.iconst 1), j1 (.goto 0) 17],
  [j0 (.iconst 0), j1 .ireturn 0]]
/-- 264 WhoSignsModel.bearsAny(I)Z -/
def mj_k264 : List (List mj_Ins) := [[j0 (.iconst 0), j0 (.istore 2), j0 (.iload 2), j0 (.iconst 1), j0 (.aload 0), j3 (.getfield 0) 12 1 1, j0 (.iconst 2), j0 .iaload, j0 .ishl, j1 (.if_icmp .ge 0) 26, j0 (.iload 2), j3 (.invokestatic 262) 1 1 0, j0 (.iload 1), j1 (.if_icmp .ne 0) 24, j0 (.aload 0), j0 (.aload 0)],
  [j3 (.getfield 0) 12 1 1, j0 (.iconst 1), j0 .iaload, j0 (.iload 2), j3 (.invokestatic 261) 3 1 13, j1 (.ifCond .ne 0) 24, j0 (.iconst 0), j1 .ireturn 1, j0 (.iinc 2 1), j1 (.goto 0) 2, j0 (.iconst 1), j1 .ireturn 1]]
/-- 265 WhoSignsModel.offer(II)I -/
def mj_k265 : List (List mj_Ins) := [[j0 (.aload 0), j0 (.iload 1), j3 (.invokestatic 198) 2 1 13, j1 (.ifCond .eq 0) 9, j0 (.iload 2), j0 (.iconst 0), j0 (.iconst 7), j3 (.invokestatic 196) 3 1 0, j1 (.ifCond .ne 0) 11, j0 (.iconst (-1000000001)), j1 .ireturn 0, j0 (.aload 0), j3 (.getfield 0) 12 1 1, j0 (.iconst 6), j0 .iaload, j0 (.iconst 6)],
  [j1 (.if_icmp .ne 0) 19, j0 (.iconst (-1000000003)), j1 .ireturn 0, j0 (.aload 0), j3 (.getfield 0) 12 1 1, j0 (.iconst 136), j0 (.iconst 2), j0 (.aload 0), j3 (.getfield 0) 12 1 1, j0 (.iconst 6), j0 .iaload, j0 .imul, j0 .iadd, j0 (.iload 1), j0 .iastore, j0 (.aload 0)],
  [j3 (.getfield 0) 12 1 1, j0 (.iconst 136), j0 (.iconst 2), j0 (.aload 0), j3 (.getfield 0) 12 1 1, j0 (.iconst 6), j0 .iaload, j0 .imul, j0 .iadd, j0 (.iconst 1), j0 .iadd, j0 (.iload 2), j0 .iastore, j0 (.aload 0), j3 (.getfield 0) 12 1 1, j0 (.iconst 6)],
  [j0 .dup2, j0 .iaload, j0 (.iconst 1), j0 .iadd, j0 .iastore, j0 (.aload 0), j3 (.getfield 0) 12 1 1, j0 (.iconst 6), j0 .iaload, j0 (.iconst 1), j0 .isub, j1 .ireturn 0]]
/-- 266 WhoSignsModel.clear()I -/
def mj_k266 : List (List mj_Ins) := [[j0 (.aload 0), j3 (.getfield 0) 12 1 1, j0 (.iconst 6), j0 .iaload, j0 (.istore 1), j0 (.aload 0), j3 (.getfield 0) 12 1 1, j0 (.iconst 6), j0 (.iconst 0), j0 .iastore, j0 (.iload 1), j1 .ireturn 0]]
/-- 267 WhoSignsModel.teach()I -/
def mj_k267 : List (List mj_Ins) := [[j0 (.iconst (-1)), j0 (.istore 1), j0 (.iconst 0), j0 (.istore 2), j0 (.iload 2), j0 (.iconst 1), j0 (.aload 0), j3 (.getfield 0) 12 1 1, j0 (.iconst 6), j0 .iaload, j0 .ishl, j1 (.if_icmp .ge 0) 33, j0 (.iload 1), j1 (.ifCond .lt 0) 20, j0 (.iload 2), j3 (.invokestatic 262) 1 1 0],
  [j0 (.iload 1), j3 (.invokestatic 262) 1 1 0, j1 (.if_icmp .lt 0) 20, j1 (.goto 0) 31, j0 (.aload 0), j0 (.iload 2), j3 (.invokestatic 268) 2 0 13, j0 (.aload 0), j0 (.iconst 1), j3 (.invokestatic 264) 2 1 13, j1 (.ifCond .eq 0) 29, j0 (.iload 2), j1 (.goto 0) 30, j0 (.iload 1), j0 (.istore 1), j0 (.iinc 2 1)],
  [j1 (.goto 0) 4, j0 (.aload 0), j0 (.iconst 0), j3 (.invokestatic 268) 2 0 13, j0 (.iload 1), j3 (.invokestatic 201) 1 1 0, j1 .ireturn 0]]
/-- 268 WhoSignsModel.offers(I)V -/
def mj_k268 : List (List mj_Ins) := [[j0 (.iconst 0), j0 (.istore 2), j0 (.iload 2), j0 (.iconst 7), j1 (.if_icmp .ge 0) 12, j0 (.aload 0), j3 (.getfield 5) 12 1 1, j0 (.iload 2), j0 (.iconst 0), j0 .iastore, j0 (.iinc 2 1), j1 (.goto 0) 2, j0 (.iconst 0), j0 (.istore 2), j0 (.iload 2), j0 (.aload 0)],
  [j3 (.getfield 0) 12 1 1, j0 (.iconst 6), j0 .iaload, j1 (.if_icmp .ge 0) 57, j0 (.aload 0), j3 (.getfield 5) 12 1 1, j0 (.aload 0), j3 (.getfield 0) 12 1 1, j0 (.iconst 136), j0 (.iconst 2), j0 (.iload 2), j0 .imul, j0 .iadd, j0 .iaload, j0 .dup2, j0 .iaload],
  [j0 (.iload 1), j0 (.iload 2), j0 .ishr, j0 (.iconst 1), j0 .iand, j0 (.iconst 1), j1 (.if_icmp .ne 0) 52, j0 (.iconst 1), j0 (.aload 0), j3 (.getfield 0) 12 1 1, j0 (.iconst 136), j0 (.iconst 2), j0 (.iload 2), j0 .imul, j0 .iadd, j0 (.iconst 1)],
  [j0 .iadd, j0 .iaload, j0 .ishl, j1 (.goto 0) 53, j0 (.iconst 0), j0 .ior, j0 .iastore, j0 (.iinc 2 1), j1 (.goto 0) 14, j0 .return_]]
/-- 269 WhoSignsModel.soon()I -/
def mj_k269 : List (List mj_Ins) := [[j0 (.aload 0), j3 (.getfield 0) 12 1 1, j0 (.iconst 1), j0 .iaload, j0 (.istore 1), j0 (.iload 1), j0 (.aload 0), j3 (.getfield 0) 12 1 1, j0 (.iconst 1), j0 .iaload, j0 (.iconst 60), j0 .iadd, j1 (.if_icmp .ge 0) 25, j0 (.iload 1), j0 (.iconst 999), j1 (.if_icmp .gt 0) 25],
  [j0 (.aload 0), j0 (.iload 1), j0 (.iconst 0), j3 (.invokestatic 261) 3 1 13, j1 (.ifCond .eq 0) 23, j0 (.iload 1), j1 .ireturn 0, j0 (.iinc 1 1), j1 (.goto 0) 5, j0 (.iconst (-1000000005)), j1 .ireturn 0]]
/-- 270 WhoSignsModel.sign(II)I -/
def mj_k270 : List (List mj_Ins) := [[j0 (.aload 0), j0 (.iload 1), j3 (.invokestatic 213) 2 1 13, j1 (.ifCond .eq 0) 8, j0 (.aload 0), j0 (.iload 2), j3 (.invokestatic 198) 2 1 13, j1 (.ifCond .ne 0) 10, j0 (.iconst (-1000000001)), j1 .ireturn 0, j0 (.aload 0), j0 (.iload 1), j0 (.iconst 3), j3 (.invokestatic 214) 3 1 13, j1 (.ifCond .ge 0) 24, j0 (.aload 0)],
  [j0 (.iload 2), j0 (.iload 1), j0 (.aload 0), j3 (.getfield 0) 12 1 1, j0 (.iconst 1), j0 .iaload, j3 (.invokestatic 215) 4 1 13, j1 (.ifCond .ne 0) 26, j0 (.iconst (-1000000002)), j1 .ireturn 0, j0 (.aload 0), j3 (.invokestatic 225) 1 0 13, j0 (.aload 0), j3 (.getfield 6) 12 1 1, j0 (.iload 1), j0 (.iload 2)],
  [j0 .iastore, j0 (.aload 0), j3 (.invokestatic 271) 1 1 13, j1 (.ifCond .ne 0) 38, j0 (.iconst (-1000000002)), j1 .ireturn 0, j0 (.aload 0), j3 (.getfield 0) 12 1 1, j0 (.iconst 64), j0 (.iconst 4), j0 (.iload 1), j0 .imul, j0 .iadd, j0 (.iconst 3), j0 .iadd, j0 (.iload 2)],
  [j0 .iastore, j0 (.aload 0), j3 (.getfield 0) 12 1 1, j0 (.iconst 7), j0 .iaload, j0 (.iconst 30), j1 (.if_icmp .ne 0) 84, j0 (.iconst 0), j0 (.istore 3), j0 (.iload 3), j0 (.iconst 87), j1 (.if_icmp .ge 0) 76, j0 (.aload 0), j3 (.getfield 0) 12 1 1, j0 (.iconst 148), j0 (.iload 3)],
  [j0 .iadd, j0 (.aload 0), j3 (.getfield 0) 12 1 1, j0 (.iconst 148), j0 (.iload 3), j0 .iadd, j0 (.iconst 3), j0 .iadd, j0 .iaload, j0 .iastore, j0 (.iinc 3 1), j1 (.goto 0) 57, j0 (.aload 0), j3 (.getfield 0) 12 1 1, j0 (.iconst 7), j0 .dup2],
  [j0 .iaload, j0 (.iconst 1), j0 .isub, j0 .iastore, j0 (.iconst 148), j0 (.iconst 3), j0 (.aload 0), j3 (.getfield 0) 12 1 1, j0 (.iconst 7), j0 .iaload, j0 .imul, j0 .iadd, j0 (.istore 3), j0 (.aload 0), j3 (.getfield 0) 12 1 1, j0 (.iload 3)],
  [j0 (.aload 0), j3 (.getfield 0) 12 1 1, j0 (.iconst 1), j0 .iaload, j0 .iastore, j0 (.aload 0), j3 (.getfield 0) 12 1 1, j0 (.iload 3), j0 (.iconst 1), j0 .iadd, j0 (.iload 1), j0 .iastore, j0 (.aload 0), j3 (.getfield 0) 12 1 1, j0 (.iload 3), j0 (.iconst 2)],
  [j0 .iadd, j0 (.iload 2), j0 .iastore, j0 (.aload 0), j3 (.getfield 0) 12 1 1, j0 (.iconst 7), j0 .dup2, j0 .iaload, j0 (.iconst 1), j0 .iadd, j0 .iastore, j0 (.aload 0), j0 .dup, j3 (.getfield 4) 12 0 0, j0 (.iconst 1), j0 .iadd],
  [j3 (.putfield 4) 12 0 0, j0 (.aload 0), j3 (.invokestatic 272) 1 1 13, j1 .ireturn 0]]
/-- 271 WhoSignsModel.allKept()Z -/
def mj_k271 : List (List mj_Ins) := [[j0 (.iconst 0), j0 (.istore 1), j0 (.iload 1), j0 (.aload 0), j3 (.getfield 0) 12 1 1, j0 (.iconst 4), j0 .iaload, j1 (.if_icmp .ge 0) 18, j0 (.aload 0), j0 (.iload 1), j0 (.aload 0), j3 (.getfield 6) 12 1 1, j3 (.invokestatic 227) 3 1 13, j1 (.ifCond .ne 0) 16, j0 (.iconst 0), j1 .ireturn 1],
  [j0 (.iinc 1 1), j1 (.goto 0) 2, j0 (.iconst 1), j1 .ireturn 1]]
/-- 272 WhoSignsModel.signedMany()I -/
def mj_k272 : List (List mj_Ins) := [[j0 (.iconst 0), j0 (.istore 1), j0 (.iconst 0), j0 (.istore 2), j0 (.iload 2), j0 (.aload 0), j3 (.getfield 0) 12 1 1, j0 (.iconst 3), j0 .iaload, j1 (.if_icmp .ge 0) 23, j0 (.iload 1), j0 (.aload 0), j0 (.iload 2), j0 (.iconst 3), j3 (.invokestatic 214) 3 1 13, j1 (.ifCond .lt 0) 18],
  [j0 (.iconst 1), j1 (.goto 0) 19, j0 (.iconst 0), j0 .iadd, j0 (.istore 1), j0 (.iinc 2 1), j1 (.goto 0) 4, j0 (.iload 1), j1 .ireturn 0]]
/-- 273 WhoSignsModel.over()I -/
def mj_k273 : List (List mj_Ins) := [[j0 (.aload 0), j3 (.invokestatic 272) 1 1 13, j0 (.istore 1), j0 (.iconst 0), j0 (.istore 2), j0 (.iload 2), j0 (.aload 0), j3 (.getfield 0) 12 1 1, j0 (.iconst 3), j0 .iaload, j1 (.if_icmp .ge 0) 24, j0 (.aload 0), j3 (.getfield 0) 12 1 1, j0 (.iconst 64), j0 (.iconst 4), j0 (.iload 2)],
  [j0 .imul, j0 .iadd, j0 (.iconst 3), j0 .iadd, j0 (.iconst (-1)), j0 .iastore, j0 (.iinc 2 1), j1 (.goto 0) 5, j0 (.aload 0), j0 .dup, j3 (.getfield 4) 12 0 0, j0 (.iconst 1), j0 .iadd, j3 (.putfield 4) 12 0 0, j0 (.iload 1), j1 .ireturn 0]]
/-- 274 WhoSignsModel.judge()I -/
def mj_k274 : List (List mj_Ins) := [[j0 (.aload 0), j3 (.invokestatic 225) 1 0 13, j0 (.iconst 0), j0 (.istore 1), j0 (.iload 1), j0 (.aload 0), j3 (.getfield 0) 12 1 1, j0 (.iconst 4), j0 .iaload, j1 (.if_icmp .ge 0) 20, j0 (.aload 0), j0 (.iload 1), j0 (.aload 0), j3 (.getfield 6) 12 1 1, j3 (.invokestatic 227) 3 1 13, j1 (.ifCond .ne 0) 18],
  [j0 (.iload 1), j1 .ireturn 0, j0 (.iinc 1 1), j1 (.goto 0) 4, j0 (.iconst (-1000000005)), j1 .ireturn 0]]
/-- 275 WhoSignsModel.queue(I)I -/
def mj_k275 : List (List mj_Ins) := [[j0 (.iload 1), j0 (.iconst (-1)), j0 (.aload 0), j3 (.getfield 0) 12 1 1, j0 (.iconst 3), j0 .iaload, j0 (.iconst 1), j0 .isub, j3 (.invokestatic 196) 3 1 0, j1 (.ifCond .ne 0) 12, j0 (.iconst (-1000000001)), j1 .ireturn 0, j0 (.aload 0), j3 (.invokestatic 225) 1 0 13, j0 (.aload 0), j3 (.invokestatic 276) 1 1 13],
  [j0 (.istore 2), j0 (.iconst 1), j0 (.istore 3), j0 (.iload 3), j1 (.ifCond .eq 0) 44, j0 (.iconst 0), j0 (.istore 3), j0 (.iconst 0), j0 (.istore 4), j0 (.iload 4), j0 (.iload 2), j1 (.if_icmp .ge 0) 43, j0 (.aload 0), j0 (.aload 0), j3 (.getfield 36) 12 1 1, j0 (.iload 4)],
  [j0 .iaload, j3 (.invokestatic 277) 2 1 13, j1 (.ifCond .ne 0) 37, j0 (.iload 3), j1 (.ifCond .eq 0) 39, j0 (.iconst 1), j1 (.goto 0) 40, j0 (.iconst 0), j0 (.istore 3), j0 (.iinc 4 1), j1 (.goto 0) 25, j1 (.goto 0) 19, j0 (.iconst 0), j0 (.istore 4), j0 (.iconst 0), j0 (.istore 5)],
  [j0 (.iload 5), j0 (.aload 0), j3 (.getfield 0) 12 1 1, j0 (.iconst 3), j0 .iaload, j1 (.if_icmp .ge 0) 67, j0 (.iload 4), j0 (.aload 0), j3 (.getfield 6) 12 1 1, j0 (.iload 5), j0 .iaload, j1 (.ifCond .lt 0) 62, j0 (.iconst 1), j1 (.goto 0) 63, j0 (.iconst 0), j0 .iadd],
  [j0 (.istore 4), j0 (.iinc 5 1), j1 (.goto 0) 48, j0 (.iload 1), j1 (.ifCond .ge 0) 71, j0 (.iload 4), j1 (.goto 0) 76, j0 (.aload 0), j3 (.getfield 6) 12 1 1, j0 (.iload 1), j0 .iaload, j3 (.invokestatic 201) 1 1 0, j1 .ireturn 0]]
/-- 276 WhoSignsModel.linesUp()I -/
def mj_k276 : List (List mj_Ins) := [[j0 (.iconst 0), j0 (.istore 1), j0 (.iconst 0), j0 (.istore 2), j0 (.iload 2), j0 (.aload 0), j3 (.getfield 0) 12 1 1, j0 (.iconst 2), j0 .iaload, j1 (.if_icmp .ge 0) 70, j0 (.aload 0), j0 (.iload 2), j0 (.aload 0), j3 (.getfield 0) 12 1 1, j0 (.iconst 1), j0 .iaload],
  [j3 (.invokestatic 199) 3 1 13, j1 (.ifCond .eq 0) 19, j1 (.goto 0) 68, j0 (.aload 0), j0 (.iload 2), j3 (.invokestatic 202) 2 1 13, j0 (.istore 3), j0 (.iload 1), j0 (.istore 4), j0 (.iload 4), j1 (.ifCond .le 0) 57, j0 (.aload 0), j3 (.getfield 37) 12 1 1, j0 (.iload 4), j0 (.iconst 1), j0 .isub],
  [j0 .iaload, j0 (.iload 3), j1 (.if_icmp .le 0) 57, j0 (.aload 0), j3 (.getfield 36) 12 1 1, j0 (.iload 4), j0 (.aload 0), j3 (.getfield 36) 12 1 1, j0 (.iload 4), j0 (.iconst 1), j0 .isub, j0 .iaload, j0 .iastore, j0 (.aload 0), j3 (.getfield 37) 12 1 1, j0 (.iload 4)],
  [j0 (.aload 0), j3 (.getfield 37) 12 1 1, j0 (.iload 4), j0 (.iconst 1), j0 .isub, j0 .iaload, j0 .iastore, j0 (.iinc 4 (-1)), j1 (.goto 0) 25, j0 (.aload 0), j3 (.getfield 36) 12 1 1, j0 (.iload 4), j0 (.iload 2), j0 .iastore, j0 (.aload 0), j3 (.getfield 37) 12 1 1],
  [j0 (.iload 4), j0 (.iload 3), j0 .iastore, j0 (.iinc 1 1), j0 (.iinc 2 1), j1 (.goto 0) 4, j0 (.iload 1), j1 .ireturn 0]]
/-- 277 WhoSignsModel.takes(I)Z -/
def mj_k277 : List (List mj_Ins) := [[j0 (.iconst 0), j0 (.istore 2), j0 (.iload 2), j0 (.aload 0), j3 (.getfield 0) 12 1 1, j0 (.iconst 3), j0 .iaload, j1 (.if_icmp .ge 0) 40, j0 (.aload 0), j3 (.getfield 6) 12 1 1, j0 (.iload 2), j0 .iaload, j1 (.ifCond .ge 0) 38, j0 (.aload 0), j0 (.iload 1), j0 (.iload 2)],
  [j0 (.aload 0), j3 (.getfield 0) 12 1 1, j0 (.iconst 1), j0 .iaload, j3 (.invokestatic 215) 4 1 13, j1 (.ifCond .ne 0) 23, j1 (.goto 0) 38, j0 (.aload 0), j3 (.getfield 6) 12 1 1, j0 (.iload 2), j0 (.iload 1), j0 .iastore, j0 (.aload 0), j3 (.invokestatic 271) 1 1 13, j1 (.ifCond .eq 0) 33, j0 (.iconst 1)],
  [j1 .ireturn 1, j0 (.aload 0), j3 (.getfield 6) 12 1 1, j0 (.iload 2), j0 (.iconst (-1)), j0 .iastore, j0 (.iinc 2 1), j1 (.goto 0) 2, j0 (.iconst 0), j1 .ireturn 1]]
/-- 278 WhoSignsModel.log(II)I -/
def mj_k278 : List (List mj_Ins) := [[j0 (.iload 2), j0 (.iconst 0), j0 (.iconst 2), j3 (.invokestatic 196) 3 1 0, j1 (.ifCond .eq 0) 7, j0 (.iload 1), j1 (.ifCond .ge 0) 9, j0 (.iconst (-1000000001)), j1 .ireturn 0, j0 (.iload 1), j0 (.aload 0), j3 (.getfield 0) 12 1 1, j0 (.iconst 7), j0 .iaload, j1 (.if_icmp .ge 0) 26, j0 (.aload 0)],
  [j3 (.getfield 0) 12 1 1, j0 (.iconst 148), j0 (.iconst 3), j0 (.iload 1), j0 .imul, j0 .iadd, j0 (.iload 2), j0 .iadd, j0 .iaload, j1 (.goto 0) 27, j0 (.iconst (-1000000005)), j1 .ireturn 0]]
/-- 279 WhoSignsModel.audit(I)I -/
def mj_k279 : List (List mj_Ins) := [[j0 (.iload 1), j0 (.iconst (-1)), j1 (.if_icmp .ge 0) 5, j0 (.iconst (-1000000001)), j1 .ireturn 0, j0 (.iconst 0), j0 (.istore 2), j0 (.iconst 0), j0 (.istore 3), j0 (.iload 3), j0 (.aload 0), j3 (.getfield 0) 12 1 1, j0 (.iconst 7), j0 .iaload, j1 (.if_icmp .ge 0) 50, j0 (.aload 0)],
  [j0 (.aload 0), j3 (.getfield 0) 12 1 1, j0 (.iconst 148), j0 (.iconst 3), j0 (.iload 3), j0 .imul, j0 .iadd, j0 (.iconst 2), j0 .iadd, j0 .iaload, j0 (.aload 0), j3 (.getfield 0) 12 1 1, j0 (.iconst 148), j0 (.iconst 3), j0 (.iload 3), j0 .imul],
  [j0 .iadd, j0 (.iconst 1), j0 .iadd, j0 .iaload, j0 (.aload 0), j3 (.getfield 0) 12 1 1, j0 (.iconst 1), j0 .iaload, j3 (.invokestatic 215) 4 1 13, j1 (.ifCond .ne 0) 48, j0 (.iload 2), j0 (.iload 1), j1 (.if_icmp .ne 0) 47, j0 (.iload 3), j1 .ireturn 0, j0 (.iinc 2 1)],
  [j0 (.iinc 3 1), j1 (.goto 0) 9, j0 (.iload 1), j0 (.iconst (-1)), j1 (.if_icmp .ne 0) 55, j0 (.iload 2), j1 (.goto 0) 56, j0 (.iconst (-1000000005)), j1 .ireturn 0]]
/-- 280 WhoSignsModel.seed(I)I -/
def mj_k280 : List (List mj_Ins) := [[j0 (.aload 0), j3 (.getfield 0) 12 1 1, j0 (.iconst 0), j0 .iaload, j0 (.istore 2), j0 (.aload 0), j3 (.getfield 0) 12 1 1, j0 (.iconst 0), j0 (.iload 1), j0 .iastore, j0 (.iload 2), j1 .ireturn 0]]
/-- 281 WhoSignsModel.luck(I)I -/
def mj_k281 : List (List mj_Ins) := [[j0 (.iload 1), j0 (.iconst 1), j0 (.iconst 60), j3 (.invokestatic 196) 3 1 0, j1 (.ifCond .ne 0) 7, j0 (.iconst (-1000000001)), j1 .ireturn 0, j0 (.iconst 0), j0 (.istore 2), j0 (.iconst 0), j0 (.istore 3), j0 (.iload 3), j0 (.iload 1), j1 (.if_icmp .ge 0) 71, j0 (.iconst 0), j0 (.istore 4)],
  [j0 (.iconst 0), j0 (.istore 5), j0 (.iload 5), j0 (.aload 0), j3 (.getfield 0) 12 1 1, j0 (.iconst 2), j0 .iaload, j1 (.if_icmp .ge 0) 55, j0 (.aload 0), j3 (.getfield 0) 12 1 1, j0 (.iconst 0), j0 (.aload 0), j3 (.getfield 0) 12 1 1, j0 (.iconst 0), j0 .iaload, j0 (.iconst 1103515245)],
  [j0 .imul, j0 (.iconst 12345), j0 .iadd, j0 .iastore, j0 (.iload 4), j0 (.aload 0), j3 (.getfield 0) 12 1 1, j0 (.iconst 0), j0 .iaload, j0 (.iconst 8), j0 .iushr, j0 (.iconst 4), j0 .irem, j1 (.ifCond .ne 0) 50, j0 (.iconst 1), j0 (.iload 5)],
  [j0 .ishl, j1 (.goto 0) 51, j0 (.iconst 0), j0 .ior, j0 (.istore 4), j0 (.iinc 5 1), j1 (.goto 0) 18, j0 (.iload 2), j0 (.aload 0), j0 (.aload 0), j3 (.getfield 0) 12 1 1, j0 (.iconst 1), j0 .iaload, j0 (.iload 4), j3 (.invokestatic 261) 3 1 13, j1 (.ifCond .eq 0) 66],
  [j0 (.iconst 1), j1 (.goto 0) 67, j0 (.iconst 0), j0 .iadd, j0 (.istore 2), j0 (.iinc 3 1), j1 (.goto 0) 11, j0 (.iload 2), j1 .ireturn 0]]
/-- 282 WhoSignsModel.sheet(III)I -/
def mj_k282 : List (List mj_Ins) := [[j0 (.iload 1), j3 (.invokestatic 283) 1 1 0, j1 (.ifCond .eq 0) 13, j0 (.iload 2), j0 (.iconst (-1)), j0 (.iconst 1), j3 (.invokestatic 196) 3 1 0, j1 (.ifCond .eq 0) 13, j0 (.iload 2), j1 (.ifCond .lt 0) 15, j0 (.iload 3), j0 (.iconst 24), j1 (.if_icmp .le 0) 15, j0 (.iconst (-1000000001)), j1 .ireturn 0, j0 (.iload 2)],
  [j1 (.ifCond .lt 0) 21, j0 (.iload 3), j1 (.ifCond .ge 0) 21, j0 (.iconst (-1000000014)), j1 .ireturn 0, j0 (.aload 0), j3 (.getfield 38) 12 1 1, j0 (.iload 1), j0 (.iload 2), j0 .iastore, j0 (.aload 0), j3 (.getfield 39) 12 1 1, j0 (.iload 1), j0 (.iload 2), j1 (.ifCond .ge 0) 33, j0 (.iconst 0)],
  [j1 (.goto 0) 34, j0 (.iload 3), j0 .iastore, j0 (.iconst 0), j0 (.istore 4), j0 (.iload 4), j0 (.iconst 24), j1 (.if_icmp .ge 0) 51, j0 (.aload 0), j3 (.getfield 40) 12 1 1, j0 (.iconst 24), j0 (.iload 1), j0 .imul, j0 (.iload 4), j0 .iadd, j0 (.iconst 0)],
  [j0 .iastore, j0 (.iinc 4 1), j1 (.goto 0) 37, j0 (.aload 0), j3 (.getfield 39) 12 1 1, j0 (.iload 1), j0 .iaload, j1 .ireturn 0]]
/-- 283 WhoSignsModel.isSheet(I)Z -/
def mj_k283 : List (List mj_Ins) := [[j0 (.iload 0), j0 (.iconst 0), j0 (.iconst 3), j3 (.invokestatic 196) 3 1 0, j1 .ireturn 1]]
/-- 284 WhoSignsModel.mark(III)I -/
def mj_k284 : List (List mj_Ins) := [[j0 (.iload 1), j3 (.invokestatic 283) 1 1 0, j1 (.ifCond .ne 0) 5, j0 (.iconst (-1000000001)), j1 .ireturn 0, j0 (.aload 0), j3 (.getfield 38) 12 1 1, j0 (.iload 1), j0 .iaload, j1 (.ifCond .ge 0) 12, j0 (.iconst (-1000000011)), j1 .ireturn 0, j0 (.iload 2), j0 (.iconst 0), j0 (.aload 0), j3 (.getfield 39) 12 1 1],
  [j0 (.iload 1), j0 .iaload, j0 (.iconst 1), j0 .isub, j3 (.invokestatic 196) 3 1 0, j1 (.ifCond .ne 0) 24, j0 (.iconst (-1000000013)), j1 .ireturn 0, j0 (.aload 0), j3 (.getfield 40) 12 1 1, j0 (.iconst 24), j0 (.iload 1), j0 .imul, j0 (.iload 2), j0 .iadd, j0 .iaload],
  [j0 (.istore 4), j0 (.aload 0), j3 (.getfield 40) 12 1 1, j0 (.iconst 24), j0 (.iload 1), j0 .imul, j0 (.iload 2), j0 .iadd, j0 (.aload 0), j3 (.getfield 38) 12 1 1, j0 (.iload 1), j0 .iaload, j1 (.ifCond .ne 0) 51, j0 (.iload 3), j1 (.ifCond .eq 0) 49, j0 (.iconst 1)],
  [j1 (.goto 0) 53, j0 (.iconst 0), j1 (.goto 0) 53, j0 (.iload 3), j0 .i2b, j0 .iastore, j0 (.iload 4), j1 .ireturn 0]]
/-- 285 WhoSignsModel.papers(II)I -/
def mj_k285 : List (List mj_Ins) := [[j0 (.aload 0), j0 (.iload 1), j3 (.invokestatic 198) 2 1 13, j1 (.ifCond .eq 0) 7, j0 (.iload 2), j3 (.invokestatic 283) 1 1 0, j1 (.ifCond .ne 0) 9, j0 (.iconst (-1000000001)), j1 .ireturn 0, j0 (.aload 0), j3 (.getfield 38) 12 1 1, j0 (.iload 2), j0 .iaload, j1 (.ifCond .ge 0) 16, j0 (.iconst (-1000000011)), j1 .ireturn 0],
  [j0 (.iconst 0), j0 (.istore 3), j0 (.iconst 0), j0 (.istore 4), j0 (.iload 4), j0 (.iconst 8), j1 (.if_icmp .ge 0) 50, j0 (.iload 4), j0 (.aload 0), j3 (.getfield 39) 12 1 1, j0 (.iload 2), j0 .iaload, j1 (.if_icmp .ge 0) 50, j0 (.iload 3), j0 (.aload 0), j0 (.iload 1)],
  [j0 (.iload 4), j0 (.aload 0), j3 (.getfield 40) 12 1 1, j0 (.iconst 24), j0 (.iload 2), j0 .imul, j0 (.iload 4), j0 .iadd, j0 .iaload, j1 (.ifCond .eq 0) 44, j0 (.iconst 1), j1 (.goto 0) 45, j0 (.iconst 0), j3 (.invokestatic 207) 4 1 13, j0 .iadd, j0 (.istore 3)],
  [j0 (.iinc 4 1), j1 (.goto 0) 20, j0 (.iload 3), j1 .ireturn 0]]
/-- 286 WhoSignsModel.copy(IIIII)I -/
def mj_k286 : List (List mj_Ins) := [[j0 (.iload 1), j3 (.invokestatic 283) 1 1 0, j1 (.ifCond .eq 0) 6, j0 (.iload 3), j3 (.invokestatic 283) 1 1 0, j1 (.ifCond .ne 0) 8, j0 (.iconst (-1000000001)), j1 .ireturn 0, j0 (.aload 0), j3 (.getfield 38) 12 1 1, j0 (.iload 1), j0 .iaload, j1 (.ifCond .lt 0) 18, j0 (.aload 0), j3 (.getfield 38) 12 1 1, j0 (.iload 3)],
  [j0 .iaload, j1 (.ifCond .ge 0) 20, j0 (.iconst (-1000000011)), j1 .ireturn 0, j0 (.aload 0), j3 (.getfield 38) 12 1 1, j0 (.iload 1), j0 .iaload, j0 (.aload 0), j3 (.getfield 38) 12 1 1, j0 (.iload 3), j0 .iaload, j1 (.if_icmp .eq 0) 31, j0 (.iconst (-1000000012)), j1 .ireturn 0, j0 (.iload 2)],
  [j1 (.ifCond .lt 0) 53, j0 (.iload 4), j1 (.ifCond .lt 0) 53, j0 (.iload 5), j1 (.ifCond .lt 0) 53, j0 (.iload 2), j0 (.aload 0), j3 (.getfield 39) 12 1 1, j0 (.iload 1), j0 .iaload, j0 (.iload 5), j0 .isub, j1 (.if_icmp .gt 0) 53, j0 (.iload 4), j0 (.aload 0), j3 (.getfield 39) 12 1 1],
  [j0 (.iload 3), j0 .iaload, j0 (.iload 5), j0 .isub, j1 (.if_icmp .le 0) 55, j0 (.iconst (-1000000013)), j1 .ireturn 0, j0 (.iconst 0), j0 (.istore 6), j0 (.iload 6), j0 (.iload 5), j1 (.if_icmp .ge 0) 76, j0 (.aload 0), j3 (.getfield 45) 12 1 1, j0 (.iload 6), j0 (.aload 0)],
  [j3 (.getfield 40) 12 1 1, j0 (.iconst 24), j0 (.iload 1), j0 .imul, j0 (.iload 2), j0 .iadd, j0 (.iload 6), j0 .iadd, j0 .iaload, j0 .iastore, j0 (.iinc 6 1), j1 (.goto 0) 57, j0 (.iconst 0), j0 (.istore 6), j0 (.iload 6), j0 (.iload 5)],
  [j1 (.if_icmp .ge 0) 97, j0 (.aload 0), j3 (.getfield 40) 12 1 1, j0 (.iconst 24), j0 (.iload 3), j0 .imul, j0 (.iload 4), j0 .iadd, j0 (.iload 6), j0 .iadd, j0 (.aload 0), j3 (.getfield 45) 12 1 1, j0 (.iload 6), j0 .iaload, j0 .iastore, j0 (.iinc 6 1)],
  [j1 (.goto 0) 78, j0 (.iload 5), j1 .ireturn 0]]
/-- 287 WhoSignsModel.lay(III)I -/
def mj_k287 : List (List mj_Ins) := [[j0 (.iload 1), j3 (.invokestatic 288) 1 1 0, j1 (.ifCond .eq 0) 21, j0 (.iload 2), j0 (.iconst 0), j0 (.iconst 3), j3 (.invokestatic 196) 3 1 0, j1 (.ifCond .eq 0) 21, j0 (.iload 2), j0 (.iconst 1), j1 (.if_icmp .ne 0) 15, j0 (.aload 0), j0 (.iload 3), j3 (.invokestatic 223) 2 1 13, j1 (.ifCond .eq 0) 21, j0 (.iload 2)],
  [j0 (.iconst 2), j1 (.if_icmp .ne 0) 23, j0 (.iload 3), j3 (.invokestatic 283) 1 1 0, j1 (.ifCond .ne 0) 23, j0 (.iconst (-1000000001)), j1 .ireturn 0, j0 (.iload 2), j0 (.iconst 2), j1 (.if_icmp .ne 0) 33, j0 (.aload 0), j3 (.getfield 38) 12 1 1, j0 (.iload 3), j0 .iaload, j1 (.ifCond .ge 0) 33, j0 (.iconst (-1000000011))],
  [j1 .ireturn 0, j0 (.aload 0), j3 (.getfield 41) 12 1 1, j0 (.iload 1), j0 .iaload, j0 (.istore 4), j0 (.aload 0), j3 (.getfield 41) 12 1 1, j0 (.iload 1), j0 (.iload 2), j0 .iastore, j0 (.aload 0), j3 (.getfield 42) 12 1 1, j0 (.iload 1), j0 (.iload 2), j0 (.iconst 1)],
  [j1 (.if_icmp .ne 0) 54, j0 (.aload 0), j0 (.iload 3), j0 (.iconst 0), j3 (.invokestatic 224) 3 1 13, j1 (.goto 0) 63, j0 (.iload 2), j0 (.iconst 2), j1 (.if_icmp .ne 0) 62, j0 (.aload 0), j3 (.getfield 39) 12 1 1, j0 (.iload 3), j0 .iaload, j1 (.goto 0) 63, j0 (.iload 3), j0 .iastore],
  [j0 (.aload 0), j3 (.getfield 43) 12 1 1, j0 (.iload 1), j0 (.iload 2), j0 (.iconst 1), j1 (.if_icmp .ne 0) 75, j0 (.aload 0), j0 (.iload 3), j0 (.iconst 3), j3 (.invokestatic 224) 3 1 13, j1 (.goto 0) 76, j0 (.iconst 0), j0 .iastore, j0 (.iconst 0), j0 (.istore 5), j0 (.iload 5)],
  [j0 (.iconst 24), j1 (.if_icmp .ge 0) 103, j0 (.iload 2), j0 (.iconst 2), j1 (.if_icmp .ne 0) 103, j0 (.aload 0), j3 (.getfield 44) 12 1 1, j0 (.iconst 24), j0 (.iload 1), j0 .imul, j0 (.iload 5), j0 .iadd, j0 (.aload 0), j3 (.getfield 40) 12 1 1, j0 (.iconst 24), j0 (.iload 3)],
  [j0 .imul, j0 (.iload 5), j0 .iadd, j0 .iaload, j0 .iastore, j0 (.iinc 5 1), j1 (.goto 0) 79, j0 (.iload 4), j1 .ireturn 0]]
/-- 288 WhoSignsModel.isSlot(I)Z -/
def mj_k288 : List (List mj_Ins) := [[j0 (.iload 0), j0 (.iconst 0), j0 (.iconst 4), j3 (.invokestatic 196) 3 1 0, j1 .ireturn 1]]
/-- 289 WhoSignsModel.ask(II)I -/
def mj_k289 : List (List mj_Ins) := [[j0 (.iload 1), j3 (.invokestatic 288) 1 1 0, j1 (.ifCond .eq 0) 8, j0 (.iload 2), j0 (.iconst 0), j0 (.iconst 5), j3 (.invokestatic 196) 3 1 0, j1 (.ifCond .ne 0) 10, j0 (.iconst (-1000000001)), j1 .ireturn 0, j0 (.aload 0), j3 (.getfield 41) 12 1 1, j0 (.iload 1), j0 .iaload, j1 (.ifCond .ne 0) 17, j0 (.iconst (-1000000011))],
  [j1 .ireturn 0, j0 (.aload 0), j3 (.getfield 41) 12 1 1, j0 (.iload 1), j0 .iaload, j0 (.iconst 1), j1 (.if_icmp .ne 0) 40, j0 (.aload 0), j3 (.getfield 42) 12 1 1, j0 (.iload 1), j0 .iaload, j0 (.iload 2), j3 (.invokestatic 229) 2 1 0, j1 (.ifCond .eq 0) 40, j0 (.aload 0), j3 (.getfield 42) 12 1 1],
  [j0 (.iload 1), j0 .iaload, j0 (.aload 0), j3 (.getfield 43) 12 1 1, j0 (.iload 1), j0 .iaload, j3 (.invokestatic 226) 2 1 0, j1 (.goto 0) 41, j0 (.iconst (-1000000012)), j1 .ireturn 0]]
/-- 290 WhoSignsModel.item(II)I -/
def mj_k290 : List (List mj_Ins) := [[j0 (.iload 1), j3 (.invokestatic 288) 1 1 0, j1 (.ifCond .ne 0) 5, j0 (.iconst (-1000000001)), j1 .ireturn 0, j0 (.aload 0), j3 (.getfield 41) 12 1 1, j0 (.iload 1), j0 .iaload, j1 (.ifCond .ne 0) 12, j0 (.iconst (-1000000011)), j1 .ireturn 0, j0 (.aload 0), j3 (.getfield 41) 12 1 1, j0 (.iload 1), j0 .iaload],
  [j0 (.iconst 2), j1 (.if_icmp .eq 0) 20, j0 (.iconst (-1000000012)), j1 .ireturn 0, j0 (.iload 2), j0 (.iconst 0), j0 (.aload 0), j3 (.getfield 42) 12 1 1, j0 (.iload 1), j0 .iaload, j0 (.iconst 1), j0 .isub, j3 (.invokestatic 196) 3 1 0, j1 (.ifCond .eq 0) 39, j0 (.aload 0), j3 (.getfield 44) 12 1 1],
  [j0 (.iconst 24), j0 (.iload 1), j0 .imul, j0 (.iload 2), j0 .iadd, j0 .iaload, j1 (.goto 0) 40, j0 (.iconst (-1000000013)), j1 .ireturn 0]]
/-- 291 WhoSignsModel.rest(II)I -/
def mj_k291 : List (List mj_Ins) := [[j0 (.iload 1), j3 (.invokestatic 288) 1 1 0, j1 (.ifCond .ne 0) 5, j0 (.iconst (-1000000001)), j1 .ireturn 0, j0 (.aload 0), j3 (.getfield 41) 12 1 1, j0 (.iload 1), j0 .iaload, j1 (.ifCond .ne 0) 12, j0 (.iconst (-1000000011)), j1 .ireturn 0, j0 (.aload 0), j3 (.getfield 41) 12 1 1, j0 (.iload 1), j0 .iaload],
  [j0 (.iconst 3), j1 (.if_icmp .eq 0) 20, j0 (.iconst (-1000000012)), j1 .ireturn 0, j0 (.iload 2), j1 (.ifCond .ne 0) 24, j0 (.iconst (-1000000002)), j1 (.goto 0) 35, j0 (.iload 2), j0 (.iconst (-1)), j1 (.if_icmp .ne 0) 29, j0 (.iconst 0), j1 (.goto 0) 35, j0 (.aload 0), j3 (.getfield 42) 12 1 1, j0 (.iload 1)],
  [j0 .iaload, j0 (.iload 2), j0 .irem, j1 .ireturn 0]]
/-- 292 WhoSignsModel.tell(I)I -/
def mj_k292 : List (List mj_Ins) := [[j0 (.aload 0), j3 (.getfield 47) 12 0 0, j0 (.iconst 60), j1 (.if_icmp .ne 0) 6, j0 (.iconst (-1000000003)), j1 .ireturn 0, j0 (.aload 0), j3 (.getfield 46) 12 1 1, j0 (.aload 0), j3 (.getfield 47) 12 0 0, j0 (.iload 1), j0 .iastore, j0 (.aload 0), j0 .dup, j3 (.getfield 47) 12 0 0, j0 (.iconst 1)],
  [j0 .iadd, j3 (.putfield 47) 12 0 0, j0 (.aload 0), j3 (.getfield 47) 12 0 0, j1 .ireturn 0]]
/-- 293 WhoSignsModel.check(I)I -/
def mj_k293 : List (List mj_Ins) := [[j0 (.aload 0), j3 (.getfield 47) 12 0 0, j0 (.istore 2), j0 (.aload 0), j0 (.iconst 0), j3 (.putfield 47) 12 0 0, j0 (.iload 1), j0 (.iconst 1), j0 (.iconst 20), j3 (.invokestatic 196) 3 1 0, j1 (.ifCond .ne 0) 13, j0 (.iconst (-1000000001)), j1 .ireturn 0, j0 (.aload 0), j3 (.getfield 3) 12 2 0, j1 (.ifCond .eq 0) 26],
  [j0 (.aload 0), j3 (.getfield 1) 12 1 1, j0 (.iconst 1), j0 .iaload, j0 (.iload 1), j0 .iadd, j0 (.iconst 1), j0 .isub, j0 (.iconst 999), j1 (.if_icmp .le 0) 28, j0 (.iconst (-1000000002)), j1 .ireturn 0, j0 (.aload 0), j3 (.getfield 0) 12 1 1, j0 (.aload 0), j3 (.getfield 2) 12 1 1],
  [j3 (.invokestatic 294) 2 0 0, j0 (.aload 0), j3 (.getfield 1) 12 1 1, j0 (.aload 0), j3 (.getfield 0) 12 1 1, j3 (.invokestatic 294) 2 0 0, j0 (.aload 0), j0 .dup, j3 (.getfield 4) 12 0 0, j0 (.iconst 1), j0 .iadd, j3 (.putfield 4) 12 0 0, j0 (.iconst 0), j0 (.istore 3), j0 (.iconst 0), j0 (.istore 4)],
  [j0 (.iload 4), j0 (.iload 1), j1 (.if_icmp .ge 0) 80, j0 (.iload 3), j0 (.iload 4), j1 (.if_icmp .ne 0) 80, j0 (.iload 4), j0 (.iload 2), j1 (.if_icmp .ge 0) 80, j0 (.aload 0), j0 (.aload 0), j3 (.getfield 1) 12 1 1, j0 (.iconst 1), j0 .iaload, j0 (.iload 4), j0 .iadd],
  [j3 (.invokestatic 250) 2 0 13, j0 (.iload 3), j0 (.aload 0), j3 (.getfield 46) 12 1 1, j0 (.iload 4), j0 .iaload, j0 (.aload 0), j3 (.getfield 28) 12 0 0, j1 (.if_icmp .ne 0) 75, j0 (.iconst 1), j1 (.goto 0) 76, j0 (.iconst 0), j0 .iadd, j0 (.istore 3), j0 (.iinc 4 1), j1 (.goto 0) 48],
  [j0 (.aload 0), j3 (.getfield 2) 12 1 1, j0 (.aload 0), j3 (.getfield 0) 12 1 1, j3 (.invokestatic 294) 2 0 0, j0 (.aload 0), j0 .dup, j3 (.getfield 4) 12 0 0, j0 (.iconst 1), j0 .iadd, j3 (.putfield 4) 12 0 0, j0 (.iload 3), j0 (.iload 2), j1 (.if_icmp .ne 0) 99, j0 (.iload 3), j0 (.iload 1)],
  [j1 (.if_icmp .ne 0) 99, j0 (.iconst 0), j1 (.goto 0) 102, j0 (.iconst 1), j0 (.iload 3), j0 .iadd, j1 .ireturn 0]]
/-- 294 WhoSignsModel.copyAll([I[I)V -/
def mj_k294 : List (List mj_Ins) := [[j0 (.iconst 0), j0 (.istore 2), j0 (.iload 2), j0 (.iconst 1610), j1 (.if_icmp .ge 0) 13, j0 (.aload 1), j0 (.iload 2), j0 (.aload 0), j0 (.iload 2), j0 .iaload, j0 .iastore, j0 (.iinc 2 1), j1 (.goto 0) 2, j0 .return_]]
/-- 295 WhoSignsModel.keep()I -/
def mj_k295 : List (List mj_Ins) := [[j0 (.aload 0), j3 (.getfield 0) 12 1 1, j0 (.aload 0), j3 (.getfield 1) 12 1 1, j3 (.invokestatic 294) 2 0 0, j0 (.aload 0), j0 (.iconst 1), j3 (.putfield 3) 12 2 0, j0 (.aload 0), j3 (.getfield 0) 12 1 1, j0 (.iconst 1), j0 .iaload, j1 .ireturn 0]]
/-- 296 WhoSignsModel.back()I -/
def mj_k296 : List (List mj_Ins) := [[j0 (.aload 0), j3 (.getfield 3) 12 2 0, j1 (.ifCond .ne 0) 5, j0 (.iconst (-1000000002)), j1 .ireturn 0, j0 (.aload 0), j3 (.getfield 1) 12 1 1, j0 (.aload 0), j3 (.getfield 0) 12 1 1, j3 (.invokestatic 294) 2 0 0, j0 (.aload 0), j0 .dup, j3 (.getfield 4) 12 0 0, j0 (.iconst 1), j0 .iadd, j3 (.putfield 4) 12 0 0],
  [j0 (.aload 0), j3 (.getfield 0) 12 1 1, j0 (.iconst 1), j0 .iaload, j1 .ireturn 0]]
/-- 297 WhoSignsModel.count(I)I -/
def mj_k297 : List (List mj_Ins) := [[j0 (.iload 1), (.lookupswitch 0 #[], 54, 0, 0, [(0, 2), (1, 7), (2, 12), (3, 17), (4, 20), (5, 25), (6, 30), (7, 35), (8, 38), (9, 41), (10, 44), (11, 49)]), j0 (.aload 0), j3 (.getfield 0) 12 1 1, j0 (.iconst 2), j0 .iaload, j1 .ireturn 0, j0 (.aload 0), j3 (.getfield 0) 12 1 1, j0 (.iconst 3), j0 .iaload, j1 .ireturn 0, j0 (.aload 0), j3 (.getfield 0) 12 1 1, j0 (.iconst 4), j0 .iaload],
  [j1 .ireturn 0, j0 (.aload 0), j3 (.invokestatic 272) 1 1 13, j1 .ireturn 0, j0 (.aload 0), j3 (.getfield 0) 12 1 1, j0 (.iconst 5), j0 .iaload, j1 .ireturn 0, j0 (.aload 0), j3 (.getfield 0) 12 1 1, j0 (.iconst 6), j0 .iaload, j1 .ireturn 0, j0 (.aload 0), j3 (.getfield 0) 12 1 1],
  [j0 (.iconst 7), j0 .iaload, j1 .ireturn 0, j0 (.aload 0), j3 (.invokestatic 298) 1 1 13, j1 .ireturn 0, j0 (.aload 0), j3 (.getfield 47) 12 0 0, j1 .ireturn 0, j0 (.aload 0), j3 (.getfield 8) 12 0 0, j1 .ireturn 0, j0 (.aload 0), j3 (.getfield 0) 12 1 1, j0 (.iconst 1), j0 .iaload],
  [j1 .ireturn 0, j0 (.aload 0), j3 (.getfield 0) 12 1 1, j0 (.iconst 0), j0 .iaload, j1 .ireturn 0, j0 (.iconst (-1000000001)), j1 .ireturn 0]]
/-- 298 WhoSignsModel.awayMany()I -/
def mj_k298 : List (List mj_Ins) := [[j0 (.iconst 0), j0 (.istore 1), j0 (.iconst 0), j0 (.istore 2), j0 (.iload 2), j0 (.aload 0), j3 (.getfield 0) 12 1 1, j0 (.iconst 2), j0 .iaload, j1 (.if_icmp .ge 0) 26, j0 (.iload 1), j0 (.aload 0), j0 (.iload 2), j0 (.aload 0), j3 (.getfield 0) 12 1 1, j0 (.iconst 1)],
  [j0 .iaload, j3 (.invokestatic 199) 3 1 13, j1 (.ifCond .eq 0) 21, j0 (.iconst 1), j1 (.goto 0) 22, j0 (.iconst 0), j0 .iadd, j0 (.istore 1), j0 (.iinc 2 1), j1 (.goto 0) 4, j0 (.iload 1), j1 .ireturn 0]]
/-- 299 WhoSignsLaw.law([I)Z -/
def mj_k299 : List (List mj_Ins) := [[j1 (.new 0) 11, j0 .dup, j3 (.invokestatic 0) 1 0 1, j0 (.astore 1), j1 (.new 12) 48, j0 .dup, j3 (.invokestatic 194) 1 0 13, j0 (.astore 2), j0 (.iconst 0), j0 (.istore 3), j0 (.iload 3), j0 (.aload 0), j0 .arraylength, j0 (.iconst 6), j0 .isub, j1 (.if_icmp .gt 0) 1256],
  [j0 (.aload 0), j0 (.iload 3), j0 .iaload, j0 (.iconst 63), j0 .iand, (.lookupswitch 0 #[], 1254, 0, 0, [(0, 22), (1, 59), (2, 86), (3, 131), (4, 168), (5, 205), (6, 242), (7, 269), (8, 286), (9, 323), (10, 350), (11, 387), (12, 414), (13, 441), (14, 468), (15, 485), (16, 522), (17, 559), (18, 576), (19, 583), (20, 610), (21, 627), (22, 644), (23, 671), (24, 688), (25, 705), (26, 712), (27, 729), (28, 756), (29, 763), (30, 770), (31, 777), (32, 804), (33, 811), (34, 818), (35, 835), (36, 862), (37, 879), (38, 896), (39, 913), (40, 950), (41, 987), (42, 1014), (43, 1071), (44, 1108), (45, 1135), (46, 1162), (47, 1189), (48, 1206), (49, 1223), (50, 1230), (51, 1237)]), j0 (.aload 1), j0 (.aload 0), j0 (.iload 3), j0 (.iconst 1), j0 .iadd, j0 .iaload, j0 (.aload 0), j0 (.iload 3), j0 (.iconst 2), j0 .iadd],
  [j0 .iaload, j0 (.aload 0), j0 (.iload 3), j0 (.iconst 3), j0 .iadd, j0 .iaload, j3 (.invokestatic 12) 4 1 1, j0 (.aload 2), j0 (.aload 0), j0 (.iload 3), j0 (.iconst 1), j0 .iadd, j0 .iaload, j0 (.aload 0), j0 (.iload 3), j0 (.iconst 2)],
  [j0 .iadd, j0 .iaload, j0 (.aload 0), j0 (.iload 3), j0 (.iconst 3), j0 .iadd, j0 .iaload, j3 (.invokestatic 195) 4 1 13, j1 (.if_icmp .eq 0) 1254, j0 (.iconst 0), j1 .ireturn 1, j0 (.aload 1), j0 (.aload 0), j0 (.iload 3), j0 (.iconst 1), j0 .iadd],
  [j0 .iaload, j0 (.aload 0), j0 (.iload 3), j0 (.iconst 2), j0 .iadd, j0 .iaload, j3 (.invokestatic 15) 3 1 1, j0 (.aload 2), j0 (.aload 0), j0 (.iload 3), j0 (.iconst 1), j0 .iadd, j0 .iaload, j0 (.aload 0), j0 (.iload 3), j0 (.iconst 2)],
  [j0 .iadd, j0 .iaload, j3 (.invokestatic 197) 3 1 13, j1 (.if_icmp .eq 0) 1254, j0 (.iconst 0), j1 .ireturn 1, j0 (.aload 1), j0 (.aload 0), j0 (.iload 3), j0 (.iconst 1), j0 .iadd, j0 .iaload, j0 (.aload 0), j0 (.iload 3), j0 (.iconst 2), j0 .iadd],
  [j0 .iaload, j0 (.aload 0), j0 (.iload 3), j0 (.iconst 3), j0 .iadd, j0 .iaload, j1 (.ifCond .eq 0) 105, j0 (.iconst 1), j1 (.goto 0) 106, j0 (.iconst 0), j3 (.invokestatic 25) 4 1 1, j0 (.aload 2), j0 (.aload 0), j0 (.iload 3), j0 (.iconst 1), j0 .iadd],
  [j0 .iaload, j0 (.aload 0), j0 (.iload 3), j0 (.iconst 2), j0 .iadd, j0 .iaload, j0 (.aload 0), j0 (.iload 3), j0 (.iconst 3), j0 .iadd, j0 .iaload, j1 (.ifCond .eq 0) 126, j0 (.iconst 1), j1 (.goto 0) 127, j0 (.iconst 0), j3 (.invokestatic 206) 4 1 13],
  [j1 (.if_icmp .eq 0) 1254, j0 (.iconst 0), j1 .ireturn 1, j0 (.aload 1), j0 (.aload 0), j0 (.iload 3), j0 (.iconst 1), j0 .iadd, j0 .iaload, j0 (.aload 0), j0 (.iload 3), j0 (.iconst 2), j0 .iadd, j0 .iaload, j0 (.aload 0), j0 (.iload 3)],
  [j0 (.iconst 3), j0 .iadd, j0 .iaload, j3 (.invokestatic 27) 4 1 1, j0 (.aload 2), j0 (.aload 0), j0 (.iload 3), j0 (.iconst 1), j0 .iadd, j0 .iaload, j0 (.aload 0), j0 (.iload 3), j0 (.iconst 2), j0 .iadd, j0 .iaload, j0 (.aload 0)],
  [j0 (.iload 3), j0 (.iconst 3), j0 .iadd, j0 .iaload, j3 (.invokestatic 208) 4 1 13, j1 (.if_icmp .eq 0) 1254, j0 (.iconst 0), j1 .ireturn 1, j0 (.aload 1), j0 (.aload 0), j0 (.iload 3), j0 (.iconst 1), j0 .iadd, j0 .iaload, j0 (.aload 0), j0 (.iload 3)],
  [j0 (.iconst 2), j0 .iadd, j0 .iaload, j0 (.aload 0), j0 (.iload 3), j0 (.iconst 3), j0 .iadd, j0 .iaload, j3 (.invokestatic 29) 4 1 1, j0 (.aload 2), j0 (.aload 0), j0 (.iload 3), j0 (.iconst 1), j0 .iadd, j0 .iaload, j0 (.aload 0)],
  [j0 (.iload 3), j0 (.iconst 2), j0 .iadd, j0 .iaload, j0 (.aload 0), j0 (.iload 3), j0 (.iconst 3), j0 .iadd, j0 .iaload, j3 (.invokestatic 210) 4 1 13, j1 (.if_icmp .eq 0) 1254, j0 (.iconst 0), j1 .ireturn 1, j0 (.aload 1), j0 (.aload 0), j0 (.iload 3)],
  [j0 (.iconst 1), j0 .iadd, j0 .iaload, j0 (.aload 0), j0 (.iload 3), j0 (.iconst 2), j0 .iadd, j0 .iaload, j0 (.aload 0), j0 (.iload 3), j0 (.iconst 3), j0 .iadd, j0 .iaload, j3 (.invokestatic 30) 4 1 1, j0 (.aload 2), j0 (.aload 0)],
  [j0 (.iload 3), j0 (.iconst 1), j0 .iadd, j0 .iaload, j0 (.aload 0), j0 (.iload 3), j0 (.iconst 2), j0 .iadd, j0 .iaload, j0 (.aload 0), j0 (.iload 3), j0 (.iconst 3), j0 .iadd, j0 .iaload, j3 (.invokestatic 211) 4 1 13, j1 (.if_icmp .eq 0) 1254],
  [j0 (.iconst 0), j1 .ireturn 1, j0 (.aload 1), j0 (.aload 0), j0 (.iload 3), j0 (.iconst 1), j0 .iadd, j0 .iaload, j0 (.aload 0), j0 (.iload 3), j0 (.iconst 2), j0 .iadd, j0 .iaload, j3 (.invokestatic 32) 3 1 1, j0 (.aload 2), j0 (.aload 0)],
  [j0 (.iload 3), j0 (.iconst 1), j0 .iadd, j0 .iaload, j0 (.aload 0), j0 (.iload 3), j0 (.iconst 2), j0 .iadd, j0 .iaload, j3 (.invokestatic 212) 3 1 13, j1 (.if_icmp .eq 0) 1254, j0 (.iconst 0), j1 .ireturn 1, j0 (.aload 1), j0 (.aload 0), j0 (.iload 3)],
  [j0 (.iconst 1), j0 .iadd, j0 .iaload, j3 (.invokestatic 39) 2 1 1, j0 (.aload 2), j0 (.aload 0), j0 (.iload 3), j0 (.iconst 1), j0 .iadd, j0 .iaload, j3 (.invokestatic 217) 2 1 13, j1 (.if_icmp .eq 0) 1254, j0 (.iconst 0), j1 .ireturn 1, j0 (.aload 1), j0 (.aload 0)],
  [j0 (.iload 3), j0 (.iconst 1), j0 .iadd, j0 .iaload, j0 (.aload 0), j0 (.iload 3), j0 (.iconst 2), j0 .iadd, j0 .iaload, j0 (.aload 0), j0 (.iload 3), j0 (.iconst 3), j0 .iadd, j0 .iaload, j3 (.invokestatic 40) 4 1 1, j0 (.aload 2)],
  [j0 (.aload 0), j0 (.iload 3), j0 (.iconst 1), j0 .iadd, j0 .iaload, j0 (.aload 0), j0 (.iload 3), j0 (.iconst 2), j0 .iadd, j0 .iaload, j0 (.aload 0), j0 (.iload 3), j0 (.iconst 3), j0 .iadd, j0 .iaload, j3 (.invokestatic 218) 4 1 13],
  [j1 (.if_icmp .eq 0) 1254, j0 (.iconst 0), j1 .ireturn 1, j0 (.aload 1), j0 (.aload 0), j0 (.iload 3), j0 (.iconst 1), j0 .iadd, j0 .iaload, j0 (.aload 0), j0 (.iload 3), j0 (.iconst 2), j0 .iadd, j0 .iaload, j3 (.invokestatic 41) 3 1 1, j0 (.aload 2)],
  [j0 (.aload 0), j0 (.iload 3), j0 (.iconst 1), j0 .iadd, j0 .iaload, j0 (.aload 0), j0 (.iload 3), j0 (.iconst 2), j0 .iadd, j0 .iaload, j3 (.invokestatic 219) 3 1 13, j1 (.if_icmp .eq 0) 1254, j0 (.iconst 0), j1 .ireturn 1, j0 (.aload 1), j0 (.aload 0)],
  [j0 (.iload 3), j0 (.iconst 1), j0 .iadd, j0 .iaload, j0 (.aload 0), j0 (.iload 3), j0 (.iconst 2), j0 .iadd, j0 .iaload, j0 (.aload 0), j0 (.iload 3), j0 (.iconst 3), j0 .iadd, j0 .iaload, j3 (.invokestatic 45) 4 1 1, j0 (.aload 2)],
  [j0 (.aload 0), j0 (.iload 3), j0 (.iconst 1), j0 .iadd, j0 .iaload, j0 (.aload 0), j0 (.iload 3), j0 (.iconst 2), j0 .iadd, j0 .iaload, j0 (.aload 0), j0 (.iload 3), j0 (.iconst 3), j0 .iadd, j0 .iaload, j3 (.invokestatic 221) 4 1 13],
  [j1 (.if_icmp .eq 0) 1254, j0 (.iconst 0), j1 .ireturn 1, j0 (.aload 1), j0 (.aload 0), j0 (.iload 3), j0 (.iconst 1), j0 .iadd, j0 .iaload, j0 (.aload 0), j0 (.iload 3), j0 (.iconst 2), j0 .iadd, j0 .iaload, j3 (.invokestatic 48) 3 1 1, j0 (.aload 2)],
  [j0 (.aload 0), j0 (.iload 3), j0 (.iconst 1), j0 .iadd, j0 .iaload, j0 (.aload 0), j0 (.iload 3), j0 (.iconst 2), j0 .iadd, j0 .iaload, j3 (.invokestatic 222) 3 1 13, j1 (.if_icmp .eq 0) 1254, j0 (.iconst 0), j1 .ireturn 1, j0 (.aload 1), j0 (.aload 0)],
  [j0 (.iload 3), j0 (.iconst 1), j0 .iadd, j0 .iaload, j0 (.aload 0), j0 (.iload 3), j0 (.iconst 2), j0 .iadd, j0 .iaload, j3 (.invokestatic 59) 3 1 1, j0 (.aload 2), j0 (.aload 0), j0 (.iload 3), j0 (.iconst 1), j0 .iadd, j0 .iaload],
  [j0 (.aload 0), j0 (.iload 3), j0 (.iconst 2), j0 .iadd, j0 .iaload, j3 (.invokestatic 228) 3 1 13, j1 (.if_icmp .eq 0) 1254, j0 (.iconst 0), j1 .ireturn 1, j0 (.aload 1), j0 (.aload 0), j0 (.iload 3), j0 (.iconst 1), j0 .iadd, j0 .iaload, j0 (.aload 0)],
  [j0 (.iload 3), j0 (.iconst 2), j0 .iadd, j0 .iaload, j3 (.invokestatic 61) 3 1 1, j0 (.aload 2), j0 (.aload 0), j0 (.iload 3), j0 (.iconst 1), j0 .iadd, j0 .iaload, j0 (.aload 0), j0 (.iload 3), j0 (.iconst 2), j0 .iadd, j0 .iaload],
  [j3 (.invokestatic 230) 3 1 13, j1 (.if_icmp .eq 0) 1254, j0 (.iconst 0), j1 .ireturn 1, j0 (.aload 1), j0 (.aload 0), j0 (.iload 3), j0 (.iconst 1), j0 .iadd, j0 .iaload, j3 (.invokestatic 62) 2 1 1, j0 (.aload 2), j0 (.aload 0), j0 (.iload 3), j0 (.iconst 1), j0 .iadd],
  [j0 .iaload, j3 (.invokestatic 231) 2 1 13, j1 (.if_icmp .eq 0) 1254, j0 (.iconst 0), j1 .ireturn 1, j0 (.aload 1), j0 (.aload 0), j0 (.iload 3), j0 (.iconst 1), j0 .iadd, j0 .iaload, j0 (.aload 0), j0 (.iload 3), j0 (.iconst 2), j0 .iadd, j0 .iaload],
  [j0 (.aload 0), j0 (.iload 3), j0 (.iconst 3), j0 .iadd, j0 .iaload, j3 (.invokestatic 65) 4 1 1, j0 (.aload 2), j0 (.aload 0), j0 (.iload 3), j0 (.iconst 1), j0 .iadd, j0 .iaload, j0 (.aload 0), j0 (.iload 3), j0 (.iconst 2), j0 .iadd],
  [j0 .iaload, j0 (.aload 0), j0 (.iload 3), j0 (.iconst 3), j0 .iadd, j0 .iaload, j3 (.invokestatic 232) 4 1 13, j1 (.if_icmp .eq 0) 1254, j0 (.iconst 0), j1 .ireturn 1, j0 (.aload 1), j0 (.aload 0), j0 (.iload 3), j0 (.iconst 1), j0 .iadd, j0 .iaload],
  [j0 (.aload 0), j0 (.iload 3), j0 (.iconst 2), j0 .iadd, j0 .iaload, j0 (.aload 0), j0 (.iload 3), j0 (.iconst 3), j0 .iadd, j0 .iaload, j3 (.invokestatic 66) 4 1 1, j0 (.aload 2), j0 (.aload 0), j0 (.iload 3), j0 (.iconst 1), j0 .iadd],
  [j0 .iaload, j0 (.aload 0), j0 (.iload 3), j0 (.iconst 2), j0 .iadd, j0 .iaload, j0 (.aload 0), j0 (.iload 3), j0 (.iconst 3), j0 .iadd, j0 .iaload, j3 (.invokestatic 233) 4 1 13, j1 (.if_icmp .eq 0) 1254, j0 (.iconst 0), j1 .ireturn 1, j0 (.aload 1)],
  [j0 (.aload 0), j0 (.iload 3), j0 (.iconst 1), j0 .iadd, j0 .iaload, j3 (.invokestatic 68) 2 1 1, j0 (.aload 2), j0 (.aload 0), j0 (.iload 3), j0 (.iconst 1), j0 .iadd, j0 .iaload, j3 (.invokestatic 234) 2 1 13, j1 (.if_icmp .eq 0) 1254, j0 (.iconst 0), j1 .ireturn 1],
  [j0 (.aload 1), j3 (.invokestatic 69) 1 1 1, j0 (.aload 2), j3 (.invokestatic 235) 1 1 13, j1 (.if_icmp .eq 0) 1254, j0 (.iconst 0), j1 .ireturn 1, j0 (.aload 1), j0 (.aload 0), j0 (.iload 3), j0 (.iconst 1), j0 .iadd, j0 .iaload, j0 (.aload 0), j0 (.iload 3), j0 (.iconst 2)],
  [j0 .iadd, j0 .iaload, j3 (.invokestatic 112) 3 1 1, j0 (.aload 2), j0 (.aload 0), j0 (.iload 3), j0 (.iconst 1), j0 .iadd, j0 .iaload, j0 (.aload 0), j0 (.iload 3), j0 (.iconst 2), j0 .iadd, j0 .iaload, j3 (.invokestatic 247) 3 1 13, j1 (.if_icmp .eq 0) 1254],
  [j0 (.iconst 0), j1 .ireturn 1, j0 (.aload 1), j0 (.aload 0), j0 (.iload 3), j0 (.iconst 1), j0 .iadd, j0 .iaload, j3 (.invokestatic 113) 2 1 1, j0 (.aload 2), j0 (.aload 0), j0 (.iload 3), j0 (.iconst 1), j0 .iadd, j0 .iaload, j3 (.invokestatic 248) 2 1 13],
  [j1 (.if_icmp .eq 0) 1254, j0 (.iconst 0), j1 .ireturn 1, j0 (.aload 1), j0 (.aload 0), j0 (.iload 3), j0 (.iconst 1), j0 .iadd, j0 .iaload, j3 (.invokestatic 114) 2 1 1, j0 (.aload 2), j0 (.aload 0), j0 (.iload 3), j0 (.iconst 1), j0 .iadd, j0 .iaload],
  [j3 (.invokestatic 249) 2 1 13, j1 (.if_icmp .eq 0) 1254, j0 (.iconst 0), j1 .ireturn 1, j0 (.aload 1), j0 (.aload 0), j0 (.iload 3), j0 (.iconst 1), j0 .iadd, j0 .iaload, j0 (.aload 0), j0 (.iload 3), j0 (.iconst 2), j0 .iadd, j0 .iaload, j3 (.invokestatic 128) 3 1 1],
  [j0 (.aload 2), j0 (.aload 0), j0 (.iload 3), j0 (.iconst 1), j0 .iadd, j0 .iaload, j0 (.aload 0), j0 (.iload 3), j0 (.iconst 2), j0 .iadd, j0 .iaload, j3 (.invokestatic 257) 3 1 13, j1 (.if_icmp .eq 0) 1254, j0 (.iconst 0), j1 .ireturn 1, j0 (.aload 1)],
  [j0 (.aload 0), j0 (.iload 3), j0 (.iconst 1), j0 .iadd, j0 .iaload, j3 (.invokestatic 138) 2 1 1, j0 (.aload 2), j0 (.aload 0), j0 (.iload 3), j0 (.iconst 1), j0 .iadd, j0 .iaload, j3 (.invokestatic 258) 2 1 13, j1 (.if_icmp .eq 0) 1254, j0 (.iconst 0), j1 .ireturn 1],
  [j0 (.aload 1), j0 (.aload 0), j0 (.iload 3), j0 (.iconst 1), j0 .iadd, j0 .iaload, j3 (.invokestatic 142) 2 1 1, j0 (.aload 2), j0 (.aload 0), j0 (.iload 3), j0 (.iconst 1), j0 .iadd, j0 .iaload, j3 (.invokestatic 259) 2 1 13, j1 (.if_icmp .eq 0) 1254, j0 (.iconst 0)],
  [j1 .ireturn 1, j0 (.aload 1), j3 (.invokestatic 143) 1 1 1, j0 (.aload 2), j3 (.invokestatic 260) 1 1 13, j1 (.if_icmp .eq 0) 1254, j0 (.iconst 0), j1 .ireturn 1, j0 (.aload 1), j0 (.aload 0), j0 (.iload 3), j0 (.iconst 1), j0 .iadd, j0 .iaload, j3 (.invokestatic 145) 2 1 1, j0 (.aload 2)],
  [j0 (.aload 0), j0 (.iload 3), j0 (.iconst 1), j0 .iadd, j0 .iaload, j3 (.invokestatic 263) 2 1 13, j1 (.if_icmp .eq 0) 1254, j0 (.iconst 0), j1 .ireturn 1, j0 (.aload 1), j0 (.aload 0), j0 (.iload 3), j0 (.iconst 1), j0 .iadd, j0 .iaload, j0 (.aload 0)],
  [j0 (.iload 3), j0 (.iconst 2), j0 .iadd, j0 .iaload, j3 (.invokestatic 146) 3 1 1, j0 (.aload 2), j0 (.aload 0), j0 (.iload 3), j0 (.iconst 1), j0 .iadd, j0 .iaload, j0 (.aload 0), j0 (.iload 3), j0 (.iconst 2), j0 .iadd, j0 .iaload],
  [j3 (.invokestatic 265) 3 1 13, j1 (.if_icmp .eq 0) 1254, j0 (.iconst 0), j1 .ireturn 1, j0 (.aload 1), j3 (.invokestatic 147) 1 1 1, j0 (.aload 2), j3 (.invokestatic 266) 1 1 13, j1 (.if_icmp .eq 0) 1254, j0 (.iconst 0), j1 .ireturn 1, j0 (.aload 1), j3 (.invokestatic 148) 1 1 1, j0 (.aload 2), j3 (.invokestatic 267) 1 1 13, j1 (.if_icmp .eq 0) 1254],
  [j0 (.iconst 0), j1 .ireturn 1, j0 (.aload 1), j3 (.invokestatic 150) 1 1 1, j0 (.aload 2), j3 (.invokestatic 269) 1 1 13, j1 (.if_icmp .eq 0) 1254, j0 (.iconst 0), j1 .ireturn 1, j0 (.aload 1), j0 (.aload 0), j0 (.iload 3), j0 (.iconst 1), j0 .iadd, j0 .iaload, j0 (.aload 0)],
  [j0 (.iload 3), j0 (.iconst 2), j0 .iadd, j0 .iaload, j3 (.invokestatic 151) 3 1 1, j0 (.aload 2), j0 (.aload 0), j0 (.iload 3), j0 (.iconst 1), j0 .iadd, j0 .iaload, j0 (.aload 0), j0 (.iload 3), j0 (.iconst 2), j0 .iadd, j0 .iaload],
  [j3 (.invokestatic 270) 3 1 13, j1 (.if_icmp .eq 0) 1254, j0 (.iconst 0), j1 .ireturn 1, j0 (.aload 1), j3 (.invokestatic 156) 1 1 1, j0 (.aload 2), j3 (.invokestatic 273) 1 1 13, j1 (.if_icmp .eq 0) 1254, j0 (.iconst 0), j1 .ireturn 1, j0 (.aload 1), j3 (.invokestatic 157) 1 1 1, j0 (.aload 2), j3 (.invokestatic 274) 1 1 13, j1 (.if_icmp .eq 0) 1254],
  [j0 (.iconst 0), j1 .ireturn 1, j0 (.aload 1), j0 (.aload 0), j0 (.iload 3), j0 (.iconst 1), j0 .iadd, j0 .iaload, j3 (.invokestatic 158) 2 1 1, j0 (.aload 2), j0 (.aload 0), j0 (.iload 3), j0 (.iconst 1), j0 .iadd, j0 .iaload, j3 (.invokestatic 275) 2 1 13],
  [j1 (.if_icmp .eq 0) 1254, j0 (.iconst 0), j1 .ireturn 1, j0 (.aload 1), j0 (.aload 0), j0 (.iload 3), j0 (.iconst 1), j0 .iadd, j0 .iaload, j0 (.aload 0), j0 (.iload 3), j0 (.iconst 2), j0 .iadd, j0 .iaload, j3 (.invokestatic 163) 3 1 1, j0 (.aload 2)],
  [j0 (.aload 0), j0 (.iload 3), j0 (.iconst 1), j0 .iadd, j0 .iaload, j0 (.aload 0), j0 (.iload 3), j0 (.iconst 2), j0 .iadd, j0 .iaload, j3 (.invokestatic 278) 3 1 13, j1 (.if_icmp .eq 0) 1254, j0 (.iconst 0), j1 .ireturn 1, j0 (.aload 1), j0 (.aload 0)],
  [j0 (.iload 3), j0 (.iconst 1), j0 .iadd, j0 .iaload, j3 (.invokestatic 164) 2 1 1, j0 (.aload 2), j0 (.aload 0), j0 (.iload 3), j0 (.iconst 1), j0 .iadd, j0 .iaload, j3 (.invokestatic 279) 2 1 13, j1 (.if_icmp .eq 0) 1254, j0 (.iconst 0), j1 .ireturn 1, j0 (.aload 1)],
  [j0 (.aload 0), j0 (.iload 3), j0 (.iconst 1), j0 .iadd, j0 .iaload, j3 (.invokestatic 165) 2 1 1, j0 (.aload 2), j0 (.aload 0), j0 (.iload 3), j0 (.iconst 1), j0 .iadd, j0 .iaload, j3 (.invokestatic 280) 2 1 13, j1 (.if_icmp .eq 0) 1254, j0 (.iconst 0), j1 .ireturn 1],
  [j0 (.aload 1), j0 (.aload 0), j0 (.iload 3), j0 (.iconst 1), j0 .iadd, j0 .iaload, j3 (.invokestatic 166) 2 1 1, j0 (.aload 2), j0 (.aload 0), j0 (.iload 3), j0 (.iconst 1), j0 .iadd, j0 .iaload, j3 (.invokestatic 281) 2 1 13, j1 (.if_icmp .eq 0) 1254, j0 (.iconst 0)],
  [j1 .ireturn 1, j0 (.aload 1), j0 (.aload 0), j0 (.iload 3), j0 (.iconst 1), j0 .iadd, j0 .iaload, j0 (.aload 0), j0 (.iload 3), j0 (.iconst 2), j0 .iadd, j0 .iaload, j0 (.aload 0), j0 (.iload 3), j0 (.iconst 3), j0 .iadd],
  [j0 .iaload, j3 (.invokestatic 168) 4 1 1, j0 (.aload 2), j0 (.aload 0), j0 (.iload 3), j0 (.iconst 1), j0 .iadd, j0 .iaload, j0 (.aload 0), j0 (.iload 3), j0 (.iconst 2), j0 .iadd, j0 .iaload, j0 (.aload 0), j0 (.iload 3), j0 (.iconst 3)],
  [j0 .iadd, j0 .iaload, j3 (.invokestatic 282) 4 1 13, j1 (.if_icmp .eq 0) 1254, j0 (.iconst 0), j1 .ireturn 1, j0 (.aload 1), j0 (.aload 0), j0 (.iload 3), j0 (.iconst 1), j0 .iadd, j0 .iaload, j0 (.aload 0), j0 (.iload 3), j0 (.iconst 2), j0 .iadd],
  [j0 .iaload, j0 (.aload 0), j0 (.iload 3), j0 (.iconst 3), j0 .iadd, j0 .iaload, j3 (.invokestatic 172) 4 1 1, j0 (.aload 2), j0 (.aload 0), j0 (.iload 3), j0 (.iconst 1), j0 .iadd, j0 .iaload, j0 (.aload 0), j0 (.iload 3), j0 (.iconst 2)],
  [j0 .iadd, j0 .iaload, j0 (.aload 0), j0 (.iload 3), j0 (.iconst 3), j0 .iadd, j0 .iaload, j3 (.invokestatic 284) 4 1 13, j1 (.if_icmp .eq 0) 1254, j0 (.iconst 0), j1 .ireturn 1, j0 (.aload 1), j0 (.aload 0), j0 (.iload 3), j0 (.iconst 1), j0 .iadd],
  [j0 .iaload, j0 (.aload 0), j0 (.iload 3), j0 (.iconst 2), j0 .iadd, j0 .iaload, j3 (.invokestatic 174) 3 1 1, j0 (.aload 2), j0 (.aload 0), j0 (.iload 3), j0 (.iconst 1), j0 .iadd, j0 .iaload, j0 (.aload 0), j0 (.iload 3), j0 (.iconst 2)],
  [j0 .iadd, j0 .iaload, j3 (.invokestatic 285) 3 1 13, j1 (.if_icmp .eq 0) 1254, j0 (.iconst 0), j1 .ireturn 1, j0 (.aload 1), j0 (.aload 0), j0 (.iload 3), j0 (.iconst 1), j0 .iadd, j0 .iaload, j0 (.aload 0), j0 (.iload 3), j0 (.iconst 2), j0 .iadd],
  [j0 .iaload, j0 (.aload 0), j0 (.iload 3), j0 (.iconst 3), j0 .iadd, j0 .iaload, j0 (.aload 0), j0 (.iload 3), j0 (.iconst 4), j0 .iadd, j0 .iaload, j0 (.aload 0), j0 (.iload 3), j0 (.iconst 5), j0 .iadd, j0 .iaload],
  [j3 (.invokestatic 175) 6 1 1, j0 (.aload 2), j0 (.aload 0), j0 (.iload 3), j0 (.iconst 1), j0 .iadd, j0 .iaload, j0 (.aload 0), j0 (.iload 3), j0 (.iconst 2), j0 .iadd, j0 .iaload, j0 (.aload 0), j0 (.iload 3), j0 (.iconst 3), j0 .iadd],
  [j0 .iaload, j0 (.aload 0), j0 (.iload 3), j0 (.iconst 4), j0 .iadd, j0 .iaload, j0 (.aload 0), j0 (.iload 3), j0 (.iconst 5), j0 .iadd, j0 .iaload, j3 (.invokestatic 286) 6 1 13, j1 (.if_icmp .eq 0) 1254, j0 (.iconst 0), j1 .ireturn 1, j0 (.aload 1)],
  [j0 (.aload 0), j0 (.iload 3), j0 (.iconst 1), j0 .iadd, j0 .iaload, j0 (.aload 0), j0 (.iload 3), j0 (.iconst 2), j0 .iadd, j0 .iaload, j0 (.aload 0), j0 (.iload 3), j0 (.iconst 3), j0 .iadd, j0 .iaload, j3 (.invokestatic 177) 4 1 1],
  [j0 (.aload 2), j0 (.aload 0), j0 (.iload 3), j0 (.iconst 1), j0 .iadd, j0 .iaload, j0 (.aload 0), j0 (.iload 3), j0 (.iconst 2), j0 .iadd, j0 .iaload, j0 (.aload 0), j0 (.iload 3), j0 (.iconst 3), j0 .iadd, j0 .iaload],
  [j3 (.invokestatic 287) 4 1 13, j1 (.if_icmp .eq 0) 1254, j0 (.iconst 0), j1 .ireturn 1, j0 (.aload 1), j0 (.aload 0), j0 (.iload 3), j0 (.iconst 1), j0 .iadd, j0 .iaload, j0 (.aload 0), j0 (.iload 3), j0 (.iconst 2), j0 .iadd, j0 .iaload, j3 (.invokestatic 180) 3 1 1],
  [j0 (.aload 2), j0 (.aload 0), j0 (.iload 3), j0 (.iconst 1), j0 .iadd, j0 .iaload, j0 (.aload 0), j0 (.iload 3), j0 (.iconst 2), j0 .iadd, j0 .iaload, j3 (.invokestatic 289) 3 1 13, j1 (.if_icmp .eq 0) 1254, j0 (.iconst 0), j1 .ireturn 1, j0 (.aload 1)],
  [j0 (.aload 0), j0 (.iload 3), j0 (.iconst 1), j0 .iadd, j0 .iaload, j0 (.aload 0), j0 (.iload 3), j0 (.iconst 2), j0 .iadd, j0 .iaload, j3 (.invokestatic 181) 3 1 1, j0 (.aload 2), j0 (.aload 0), j0 (.iload 3), j0 (.iconst 1), j0 .iadd],
  [j0 .iaload, j0 (.aload 0), j0 (.iload 3), j0 (.iconst 2), j0 .iadd, j0 .iaload, j3 (.invokestatic 290) 3 1 13, j1 (.if_icmp .eq 0) 1254, j0 (.iconst 0), j1 .ireturn 1, j0 (.aload 1), j0 (.aload 0), j0 (.iload 3), j0 (.iconst 1), j0 .iadd, j0 .iaload],
  [j0 (.aload 0), j0 (.iload 3), j0 (.iconst 2), j0 .iadd, j0 .iaload, j3 (.invokestatic 182) 3 1 1, j0 (.aload 2), j0 (.aload 0), j0 (.iload 3), j0 (.iconst 1), j0 .iadd, j0 .iaload, j0 (.aload 0), j0 (.iload 3), j0 (.iconst 2), j0 .iadd],
  [j0 .iaload, j3 (.invokestatic 291) 3 1 13, j1 (.if_icmp .eq 0) 1254, j0 (.iconst 0), j1 .ireturn 1, j0 (.aload 1), j0 (.aload 0), j0 (.iload 3), j0 (.iconst 1), j0 .iadd, j0 .iaload, j3 (.invokestatic 183) 2 1 1, j0 (.aload 2), j0 (.aload 0), j0 (.iload 3), j0 (.iconst 1)],
  [j0 .iadd, j0 .iaload, j3 (.invokestatic 292) 2 1 13, j1 (.if_icmp .eq 0) 1254, j0 (.iconst 0), j1 .ireturn 1, j0 (.aload 1), j0 (.aload 0), j0 (.iload 3), j0 (.iconst 1), j0 .iadd, j0 .iaload, j3 (.invokestatic 184) 2 1 1, j0 (.aload 2), j0 (.aload 0), j0 (.iload 3)],
  [j0 (.iconst 1), j0 .iadd, j0 .iaload, j3 (.invokestatic 293) 2 1 13, j1 (.if_icmp .eq 0) 1254, j0 (.iconst 0), j1 .ireturn 1, j0 (.aload 1), j3 (.invokestatic 186) 1 1 1, j0 (.aload 2), j3 (.invokestatic 295) 1 1 13, j1 (.if_icmp .eq 0) 1254, j0 (.iconst 0), j1 .ireturn 1, j0 (.aload 1), j3 (.invokestatic 191) 1 1 1],
  [j0 (.aload 2), j3 (.invokestatic 296) 1 1 13, j1 (.if_icmp .eq 0) 1254, j0 (.iconst 0), j1 .ireturn 1, j0 (.aload 1), j0 (.aload 0), j0 (.iload 3), j0 (.iconst 1), j0 .iadd, j0 .iaload, j3 (.invokestatic 192) 2 1 1, j0 (.aload 2), j0 (.aload 0), j0 (.iload 3), j0 (.iconst 1)],
  [j0 .iadd, j0 .iaload, j3 (.invokestatic 297) 2 1 13, j1 (.if_icmp .eq 0) 1254, j0 (.iconst 0), j1 .ireturn 1, j0 (.iinc 3 6), j1 (.goto 0) 10, j0 (.iconst 1), j1 .ireturn 1]]
def mj_tab (m : Nat) : Nat × List (List mj_Ins) := (bif Nat.ble 150 m then (bif Nat.ble 225 m then (bif Nat.ble 262 m then (bif Nat.ble 281 m then (bif Nat.ble 290 m then (bif Nat.ble 295 m then (bif Nat.ble 297 m then (bif Nat.ble 298 m then (bif Nat.ble 299 m then (4, mj_k299) else (3, mj_k298)) else (2, mj_k297)) else (bif Nat.ble 296 m then (1, mj_k296) else (1, mj_k295))) else (bif Nat.ble 292 m then (bif Nat.ble 293 m then (bif Nat.ble 294 m then (3, mj_k294) else (5, mj_k293)) else (2, mj_k292)) else (bif Nat.ble 291 m then (3, mj_k291) else (3, mj_k290)))) else (bif Nat.ble 285 m then (bif Nat.ble 287 m then (bif Nat.ble 288 m then (bif Nat.ble 289 m then (3, mj_k289) else (1, mj_k288)) else (6, mj_k287)) else (bif Nat.ble 286 m then (7, mj_k286) else (5, mj_k285))) else (bif Nat.ble 283 m then (bif Nat.ble 284 m then (5, mj_k284) else (1, mj_k283)) else (bif Nat.ble 282 m then (5, mj_k282) else (6, mj_k281))))) else (bif Nat.ble 271 m then (bif Nat.ble 276 m then (bif Nat.ble 278 m then (bif Nat.ble 279 m then (bif Nat.ble 280 m then (3, mj_k280) else (4, mj_k279)) else (3, mj_k278)) else (bif Nat.ble 277 m then (3, mj_k277) else (5, mj_k276))) else (bif Nat.ble 273 m then (bif Nat.ble 274 m then (bif Nat.ble 275 m then (6, mj_k275) else (2, mj_k274)) else (3, mj_k273)) else (bif Nat.ble 272 m then (3, mj_k272) else (2, mj_k271)))) else (bif Nat.ble 266 m then (bif Nat.ble 268 m then (bif Nat.ble 269 m then (bif Nat.ble 270 m then (4, mj_k270) else (2, mj_k269)) else (3, mj_k268)) else (bif Nat.ble 267 m then (3, mj_k267) else (2, mj_k266))) else (bif Nat.ble 264 m then (bif Nat.ble 265 m then (3, mj_k265) else (3, mj_k264)) else (bif Nat.ble 263 m then (2, mj_k263) else (3, mj_k262)))))) else (bif Nat.ble 243 m then (bif Nat.ble 252 m then (bif Nat.ble 257 m then (bif Nat.ble 259 m then (bif Nat.ble 260 m then (bif Nat.ble 261 m then (3, mj_k261) else (3, mj_k260)) else (2, mj_k259)) else (bif Nat.ble 258 m then (2, mj_k258) else (3, mj_k257))) else (bif Nat.ble 254 m then (bif Nat.ble 255 m then (bif Nat.ble 256 m then (3, mj_k256) else (5, mj_k255)) else (4, mj_k254)) else (bif Nat.ble 253 m then (4, mj_k253) else (2, mj_k252)))) else (bif Nat.ble 247 m then (bif Nat.ble 249 m then (bif Nat.ble 250 m then (bif Nat.ble 251 m then (6, mj_k251) else (4, mj_k250)) else (2, mj_k249)) else (bif Nat.ble 248 m then (3, mj_k248) else (3, mj_k247))) else (bif Nat.ble 245 m then (bif Nat.ble 246 m then (1, mj_k246) else (3, mj_k245)) else (bif Nat.ble 244 m then (1, mj_k244) else (2, mj_k243))))) else (bif Nat.ble 234 m then (bif Nat.ble 238 m then (bif Nat.ble 240 m then (bif Nat.ble 241 m then (bif Nat.ble 242 m then (2, mj_k242) else (2, mj_k241)) else (5, mj_k240)) else (bif Nat.ble 239 m then (5, mj_k239) else (2, mj_k238))) else (bif Nat.ble 236 m then (bif Nat.ble 237 m then (2, mj_k237) else (2, mj_k236)) else (bif Nat.ble 235 m then (4, mj_k235) else (2, mj_k234)))) else (bif Nat.ble 229 m then (bif Nat.ble 231 m then (bif Nat.ble 232 m then (bif Nat.ble 233 m then (6, mj_k233) else (5, mj_k232)) else (3, mj_k231)) else (bif Nat.ble 230 m then (4, mj_k230) else (2, mj_k229))) else (bif Nat.ble 227 m then (bif Nat.ble 228 m then (3, mj_k228) else (10, mj_k227)) else (bif Nat.ble 226 m then (2, mj_k226) else (2, mj_k225))))))) else (bif Nat.ble 187 m then (bif Nat.ble 206 m then (bif Nat.ble 215 m then (bif Nat.ble 220 m then (bif Nat.ble 222 m then (bif Nat.ble 223 m then (bif Nat.ble 224 m then (3, mj_k224) else (2, mj_k223)) else (3, mj_k222)) else (bif Nat.ble 221 m then (5, mj_k221) else (5, mj_k220))) else (bif Nat.ble 217 m then (bif Nat.ble 218 m then (bif Nat.ble 219 m then (3, mj_k219) else (4, mj_k218)) else (2, mj_k217)) else (bif Nat.ble 216 m then (5, mj_k216) else (5, mj_k215)))) else (bif Nat.ble 210 m then (bif Nat.ble 212 m then (bif Nat.ble 213 m then (bif Nat.ble 214 m then (3, mj_k214) else (2, mj_k213)) else (5, mj_k212)) else (bif Nat.ble 211 m then (5, mj_k211) else (5, mj_k210))) else (bif Nat.ble 208 m then (bif Nat.ble 209 m then (1, mj_k209) else (4, mj_k208)) else (bif Nat.ble 207 m then (6, mj_k207) else (4, mj_k206))))) else (bif Nat.ble 196 m then (bif Nat.ble 201 m then (bif Nat.ble 203 m then (bif Nat.ble 204 m then (bif Nat.ble 205 m then (3, mj_k205) else (6, mj_k204)) else (3, mj_k203)) else (bif Nat.ble 202 m then (3, mj_k202) else (1, mj_k201))) else (bif Nat.ble 198 m then (bif Nat.ble 199 m then (bif Nat.ble 200 m then (3, mj_k200) else (3, mj_k199)) else (2, mj_k198)) else (bif Nat.ble 197 m then (3, mj_k197) else (3, mj_k196)))) else (bif Nat.ble 191 m then (bif Nat.ble 193 m then (bif Nat.ble 194 m then (bif Nat.ble 195 m then (5, mj_k195) else (1, mj_k194)) else (3, mj_k193)) else (bif Nat.ble 192 m then (2, mj_k192) else (1, mj_k191))) else (bif Nat.ble 189 m then (bif Nat.ble 190 m then (2, mj_k190) else (2, mj_k189)) else (bif Nat.ble 188 m then (2, mj_k188) else (3, mj_k187)))))) else (bif Nat.ble 168 m then (bif Nat.ble 177 m then (bif Nat.ble 182 m then (bif Nat.ble 184 m then (bif Nat.ble 185 m then (bif Nat.ble 186 m then (1, mj_k186) else (7, mj_k185)) else (4, mj_k184)) else (bif Nat.ble 183 m then (2, mj_k183) else (4, mj_k182))) else (bif Nat.ble 179 m then (bif Nat.ble 180 m then (bif Nat.ble 181 m then (4, mj_k181) else (4, mj_k180)) else (2, mj_k179)) else (bif Nat.ble 178 m then (1, mj_k178) else (6, mj_k177)))) else (bif Nat.ble 172 m then (bif Nat.ble 174 m then (bif Nat.ble 175 m then (bif Nat.ble 176 m then (3, mj_k176) else (8, mj_k175)) else (7, mj_k174)) else (bif Nat.ble 173 m then (2, mj_k173) else (6, mj_k172))) else (bif Nat.ble 170 m then (bif Nat.ble 171 m then (4, mj_k171) else (3, mj_k170)) else (bif Nat.ble 169 m then (1, mj_k169) else (4, mj_k168))))) else (bif Nat.ble 159 m then (bif Nat.ble 163 m then (bif Nat.ble 165 m then (bif Nat.ble 166 m then (bif Nat.ble 167 m then (3, mj_k167) else (6, mj_k166)) else (3, mj_k165)) else (bif Nat.ble 164 m then (4, mj_k164) else (4, mj_k163))) else (bif Nat.ble 161 m then (bif Nat.ble 162 m then (4, mj_k162) else (4, mj_k161)) else (bif Nat.ble 160 m then (3, mj_k160) else (6, mj_k159)))) else (bif Nat.ble 154 m then (bif Nat.ble 156 m then (bif Nat.ble 157 m then (bif Nat.ble 158 m then (5, mj_k158) else (2, mj_k157)) else (3, mj_k156)) else (bif Nat.ble 155 m then (3, mj_k155) else (1, mj_k154))) else (bif Nat.ble 152 m then (bif Nat.ble 153 m then (4, mj_k153) else (3, mj_k152)) else (bif Nat.ble 151 m then (5, mj_k151) else (4, mj_k150)))))))) else (bif Nat.ble 75 m then (bif Nat.ble 112 m then (bif Nat.ble 131 m then (bif Nat.ble 140 m then (bif Nat.ble 145 m then (bif Nat.ble 147 m then (bif Nat.ble 148 m then (bif Nat.ble 149 m then (3, mj_k149) else (4, mj_k148)) else (2, mj_k147)) else (bif Nat.ble 146 m then (3, mj_k146) else (2, mj_k145))) else (bif Nat.ble 142 m then (bif Nat.ble 143 m then (bif Nat.ble 144 m then (4, mj_k144) else (3, mj_k143)) else (2, mj_k142)) else (bif Nat.ble 141 m then (4, mj_k141) else (5, mj_k140)))) else (bif Nat.ble 135 m then (bif Nat.ble 137 m then (bif Nat.ble 138 m then (bif Nat.ble 139 m then (2, mj_k139) else (2, mj_k138)) else (3, mj_k137)) else (bif Nat.ble 136 m then (7, mj_k136) else (5, mj_k135))) else (bif Nat.ble 133 m then (bif Nat.ble 134 m then (4, mj_k134) else (2, mj_k133)) else (bif Nat.ble 132 m then (5, mj_k132) else (2, mj_k131))))) else (bif Nat.ble 121 m then (bif Nat.ble 126 m then (bif Nat.ble 128 m then (bif Nat.ble 129 m then (bif Nat.ble 130 m then (2, mj_k130) else (4, mj_k129)) else (4, mj_k128)) else (bif Nat.ble 127 m then (5, mj_k127) else (3, mj_k126))) else (bif Nat.ble 123 m then (bif Nat.ble 124 m then (bif Nat.ble 125 m then (5, mj_k125) else (7, mj_k124)) else (7, mj_k123)) else (bif Nat.ble 122 m then (2, mj_k122) else (4, mj_k121)))) else (bif Nat.ble 116 m then (bif Nat.ble 118 m then (bif Nat.ble 119 m then (bif Nat.ble 120 m then (1, mj_k120) else (3, mj_k119)) else (5, mj_k118)) else (bif Nat.ble 117 m then (2, mj_k117) else (4, mj_k116))) else (bif Nat.ble 114 m then (bif Nat.ble 115 m then (7, mj_k115) else (2, mj_k114)) else (bif Nat.ble 113 m then (3, mj_k113) else (4, mj_k112)))))) else (bif Nat.ble 93 m then (bif Nat.ble 102 m then (bif Nat.ble 107 m then (bif Nat.ble 109 m then (bif Nat.ble 110 m then (bif Nat.ble 111 m then (2, mj_k111) else (4, mj_k110)) else (3, mj_k109)) else (bif Nat.ble 108 m then (1, mj_k108) else (1, mj_k107))) else (bif Nat.ble 104 m then (bif Nat.ble 105 m then (bif Nat.ble 106 m then (1, mj_k106) else (1, mj_k105)) else (2, mj_k104)) else (bif Nat.ble 103 m then (7, mj_k103) else (5, mj_k102)))) else (bif Nat.ble 97 m then (bif Nat.ble 99 m then (bif Nat.ble 100 m then (bif Nat.ble 101 m then (4, mj_k101) else (3, mj_k100)) else (3, mj_k99)) else (bif Nat.ble 98 m then (4, mj_k98) else (4, mj_k97))) else (bif Nat.ble 95 m then (bif Nat.ble 96 m then (6, mj_k96) else (1, mj_k95)) else (bif Nat.ble 94 m then (4, mj_k94) else (3, mj_k93))))) else (bif Nat.ble 84 m then (bif Nat.ble 88 m then (bif Nat.ble 90 m then (bif Nat.ble 91 m then (bif Nat.ble 92 m then (2, mj_k92) else (1, mj_k91)) else (1, mj_k90)) else (bif Nat.ble 89 m then (2, mj_k89) else (3, mj_k88))) else (bif Nat.ble 86 m then (bif Nat.ble 87 m then (3, mj_k87) else (7, mj_k86)) else (bif Nat.ble 85 m then (2, mj_k85) else (1, mj_k84)))) else (bif Nat.ble 79 m then (bif Nat.ble 81 m then (bif Nat.ble 82 m then (bif Nat.ble 83 m then (2, mj_k83) else (2, mj_k82)) else (3, mj_k81)) else (bif Nat.ble 80 m then (2, mj_k80) else (2, mj_k79))) else (bif Nat.ble 77 m then (bif Nat.ble 78 m then (1, mj_k78) else (2, mj_k77)) else (bif Nat.ble 76 m then (1, mj_k76) else (1, mj_k75))))))) else (bif Nat.ble 37 m then (bif Nat.ble 56 m then (bif Nat.ble 65 m then (bif Nat.ble 70 m then (bif Nat.ble 72 m then (bif Nat.ble 73 m then (bif Nat.ble 74 m then (3, mj_k74) else (1, mj_k73)) else (1, mj_k72)) else (bif Nat.ble 71 m then (3, mj_k71) else (1, mj_k70))) else (bif Nat.ble 67 m then (bif Nat.ble 68 m then (bif Nat.ble 69 m then (2, mj_k69) else (2, mj_k68)) else (3, mj_k67)) else (bif Nat.ble 66 m then (4, mj_k66) else (6, mj_k65)))) else (bif Nat.ble 60 m then (bif Nat.ble 62 m then (bif Nat.ble 63 m then (bif Nat.ble 64 m then (2, mj_k64) else (3, mj_k63)) else (2, mj_k62)) else (bif Nat.ble 61 m then (5, mj_k61) else (4, mj_k60))) else (bif Nat.ble 58 m then (bif Nat.ble 59 m then (4, mj_k59) else (6, mj_k58)) else (bif Nat.ble 57 m then (1, mj_k57) else (1, mj_k56))))) else (bif Nat.ble 46 m then (bif Nat.ble 51 m then (bif Nat.ble 53 m then (bif Nat.ble 54 m then (bif Nat.ble 55 m then (5, mj_k55) else (3, mj_k54)) else (4, mj_k53)) else (bif Nat.ble 52 m then (1, mj_k52) else (3, mj_k51))) else (bif Nat.ble 48 m then (bif Nat.ble 49 m then (bif Nat.ble 50 m then (2, mj_k50) else (2, mj_k49)) else (4, mj_k48)) else (bif Nat.ble 47 m then (5, mj_k47) else (1, mj_k46)))) else (bif Nat.ble 41 m then (bif Nat.ble 43 m then (bif Nat.ble 44 m then (bif Nat.ble 45 m then (6, mj_k45) else (2, mj_k44)) else (2, mj_k43)) else (bif Nat.ble 42 m then (6, mj_k42) else (3, mj_k41))) else (bif Nat.ble 39 m then (bif Nat.ble 40 m then (4, mj_k40) else (2, mj_k39)) else (bif Nat.ble 38 m then (1, mj_k38) else (2, mj_k37)))))) else (bif Nat.ble 18 m then (bif Nat.ble 27 m then (bif Nat.ble 32 m then (bif Nat.ble 34 m then (bif Nat.ble 35 m then (bif Nat.ble 36 m then (5, mj_k36) else (7, mj_k35)) else (5, mj_k34)) else (bif Nat.ble 33 m then (2, mj_k33) else (4, mj_k32))) else (bif Nat.ble 29 m then (bif Nat.ble 30 m then (bif Nat.ble 31 m then (4, mj_k31) else (4, mj_k30)) else (6, mj_k29)) else (bif Nat.ble 28 m then (1, mj_k28) else (5, mj_k27)))) else (bif Nat.ble 22 m then (bif Nat.ble 24 m then (bif Nat.ble 25 m then (bif Nat.ble 26 m then (4, mj_k26) else (4, mj_k25)) else (3, mj_k24)) else (bif Nat.ble 23 m then (2, mj_k23) else (6, mj_k22))) else (bif Nat.ble 20 m then (bif Nat.ble 21 m then (5, mj_k21) else (2, mj_k20)) else (bif Nat.ble 19 m then (4, mj_k19) else (1, mj_k18))))) else (bif Nat.ble 9 m then (bif Nat.ble 13 m then (bif Nat.ble 15 m then (bif Nat.ble 16 m then (bif Nat.ble 17 m then (2, mj_k17) else (2, mj_k16)) else (4, mj_k15)) else (bif Nat.ble 14 m then (4, mj_k14) else (3, mj_k13))) else (bif Nat.ble 11 m then (bif Nat.ble 12 m then (4, mj_k12) else (1, mj_k11)) else (bif Nat.ble 10 m then (1, mj_k10) else (1, mj_k9)))) else (bif Nat.ble 4 m then (bif Nat.ble 6 m then (bif Nat.ble 7 m then (bif Nat.ble 8 m then (1, mj_k8) else (1, mj_k7)) else (1, mj_k6)) else (bif Nat.ble 5 m then (1, mj_k5) else (1, mj_k4))) else (bif Nat.ble 2 m then (bif Nat.ble 3 m then (1, mj_k3) else (2, mj_k2)) else (bif Nat.ble 1 m then (1, mj_k1) else (2, mj_k0)))))))))
def mj_code (m i : Nat) : mj_Ins := mj_nth (j0 .nop) (mj_nth [] (mj_tab m).2 (i / 16)) (i % 16)
def mj_ent (m : Nat) (as : List mj_V) : mj_L := as.map some ++ List.replicate ((mj_tab m).1 - as.length) none
