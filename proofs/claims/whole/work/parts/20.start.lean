def atP : Jvm.Cond → List Bool → Option Jvm.Cond
  | c, [] => some c
  | .and a _, false :: r => atP a r
  | .and _ b, true :: r => atP b r
  | _, _ :: _ => none
theorem atP_before {args : Array Value} {s : State} : ∀ (p : List Bool) (c w : Jvm.Cond), atP c p = some w → c.before args s = true → w.before args s = true
  | [], c, w, h, hb => by cases c <;> (simp only [atP, Option.some.injEq] at h; subst h; exact hb)
  | x :: r, c, w, h, hb => by
    cases c with
    | and a b =>
      rw [Cond.before_and, Bool.and_eq_true] at hb
      cases x
      · exact atP_before r a w h hb.1
      · exact atP_before r b w h hb.2
    | _ => cases x <;> simp [atP] at h
abbrev NR : Jvm.Cond := Jvm.Cond.and given_1 narrow_1
def pWe : List (List Bool) := [[true, false, false, false, false, false, true, false, false], [true, false, false, true, false, true, true, false, true, true], [true, false, false, true, false, true, false, true, true, false], [true, false, false, true, false, true, true, false, false]]
def pWo : List (List Bool) := [[true, false, false, false, false, false, true, false, true, false], [true, false, false, true, false, true, true, true, false], [true, false, false, true, false, true, false, true, true, true], [true, false, false, true, false, true, true, false, true, false]]
def pCe : List (List Bool) := [[true, false, false, true, false, true, true, true, true, false], [true, false, false, true, true, false, false, true, true, true], [true, false, false, true, true, true, false, false, false], [true, false, false, true, true, true, true, false, true, false], [true, false, true, false, false, false, false, false, true, false], [true, false, true, false, false, false, true, false, true, false], [true, false, true, false, false, true, false, false, true, false], [true, false, true, false, false, true, true, false, true, false], [true, false, true, false, true, false, false, false, true, false], [true, false, true, false, true, false, true, false, true, false], [true, false, true, false, true, true, false, false, true, false], [true, false, true, false, true, true, true, false, true, false], [true, false, true, true, false, false, false, false, false], [true, false, true, true, false, false, true, false, false], [true, false, true, true, false, true, false, false, false], [true, false, true, true, false, true, true, false, false], [true, false, true, true, true, false, false, false, false], [true, false, true, true, true, false, true, false, false], [true, false, true, true, true, true, false, false, false], [true, false, true, true, true, true, true, false, false], [true, false, true, true, true, true, true, true, true, true], [true, true, false, false, false, false, false, true, true, true]]
def pCl : List (List Bool) := [[true, false, false, true, true, false, false, false, false], [true, false, false, true, true, false, true, false, true, false], [true, false, false, true, true, true, false, false, true, true], [true, false, false, true, true, true, true, true, false, false], [true, false, true, false, false, false, false, true, false], [true, false, true, false, false, false, true, true, false], [true, false, true, false, false, true, false, true, false], [true, false, true, false, false, true, true, true, false], [true, false, true, false, true, false, false, true, false], [true, false, true, false, true, false, true, true, false], [true, false, true, false, true, true, false, true, false], [true, false, true, false, true, true, true, true, false, false], [true, false, true, true, false, false, false, false, true, true], [true, false, true, true, false, false, true, false, true, true], [true, false, true, true, false, true, false, false, true, true], [true, false, true, true, false, true, true, false, true, true], [true, false, true, true, true, false, false, false, true, true], [true, false, true, true, true, false, true, false, true, true], [true, false, true, true, true, true, false, false, true, true], [true, false, true, true, true, true, true, false, true, true], [true, true, false, false, false, false, false, false, true, false], [true, true, false, false, false, false, true, false, true, false]]
def pCa : List (List Bool) := [[true, false, false, true, true, false, false, false, true, false], [true, false, false, true, true, false, true, false, true, true], [true, false, false, true, true, true, false, true, false], [true, false, false, true, true, true, true, true, false, true], [true, false, true, false, false, false, false, true, true, false], [true, false, true, false, false, false, true, true, true, false], [true, false, true, false, false, true, false, true, true, false], [true, false, true, false, false, true, true, true, true, false], [true, false, true, false, true, false, false, true, true, false], [true, false, true, false, true, false, true, true, true, false], [true, false, true, false, true, true, false, true, true, false], [true, false, true, false, true, true, true, true, false, true], [true, false, true, true, false, false, false, true, false], [true, false, true, true, false, false, true, true, false], [true, false, true, true, false, true, false, true, false], [true, false, true, true, false, true, true, true, false], [true, false, true, true, true, false, false, true, false], [true, false, true, true, true, false, true, true, false], [true, false, true, true, true, true, false, true, false], [true, false, true, true, true, true, true, true, false, false], [true, true, false, false, false, false, false, false, true, true], [true, true, false, false, false, false, true, false, true, true]]
def pCw : List (List Bool) := [[true, false, false, true, true, false, false, false, true, true], [true, false, false, true, true, false, true, true, false], [true, false, false, true, true, true, false, true, true, false], [true, false, false, true, true, true, true, true, true, false], [true, false, true, false, false, false, false, true, true, true], [true, false, true, false, false, false, true, true, true, true], [true, false, true, false, false, true, false, true, true, true], [true, false, true, false, false, true, true, true, true, true], [true, false, true, false, true, false, false, true, true, true], [true, false, true, false, true, false, true, true, true, true], [true, false, true, false, true, true, false, true, true, true], [true, false, true, false, true, true, true, true, true, false], [true, false, true, true, false, false, false, true, true, false], [true, false, true, true, false, false, true, true, true, false], [true, false, true, true, false, true, false, true, true, false], [true, false, true, true, false, true, true, true, true, false], [true, false, true, true, true, false, false, true, true, false], [true, false, true, true, true, false, true, true, true, false], [true, false, true, true, true, true, false, true, true, false], [true, false, true, true, true, true, true, true, false, true], [true, true, false, false, false, false, false, true, false], [true, true, false, false, false, false, true, true, false]]
def pCd : List (List Bool) := [[true, false, false, true, true, false, false, true, false], [true, false, false, true, true, false, true, true, true, false], [true, false, false, true, true, true, false, true, true, true], [true, false, false, true, true, true, true, true, true, true], [true, false, true, false, false, false, true, false, false], [true, false, true, false, false, true, false, false, false], [true, false, true, false, false, true, true, false, false], [true, false, true, false, true, false, false, false, false], [true, false, true, false, true, false, true, false, false], [true, false, true, false, true, true, false, false, false], [true, false, true, false, true, true, true, false, false], [true, false, true, false, true, true, true, true, true, true], [true, false, true, true, false, false, false, true, true, true], [true, false, true, true, false, false, true, true, true, true], [true, false, true, true, false, true, false, true, true, true], [true, false, true, true, false, true, true, true, true, true], [true, false, true, true, true, false, false, true, true, true], [true, false, true, true, true, false, true, true, true, true], [true, false, true, true, true, true, false, true, true, true], [true, false, true, true, true, true, true, true, true, false], [true, true, false, false, false, false, false, true, true, false], [true, true, false, false, false, false, true, true, true, false]]
def pCo : List (List Bool) := [[true, false, false, true, false, true, true, true, true, true], [true, false, false, true, true, false, true, false, false], [true, false, false, true, true, true, false, false, true, false], [true, false, false, true, true, true, true, false, true, true], [true, false, true, false, false, false, false, false, true, true], [true, false, true, false, false, false, true, false, true, true], [true, false, true, false, false, true, false, false, true, true], [true, false, true, false, false, true, true, false, true, true], [true, false, true, false, true, false, false, false, true, true], [true, false, true, false, true, false, true, false, true, true], [true, false, true, false, true, true, false, false, true, true], [true, false, true, false, true, true, true, false, true, true], [true, false, true, true, false, false, false, false, true, false], [true, false, true, true, false, false, true, false, true, false], [true, false, true, true, false, true, false, false, true, false], [true, false, true, true, false, true, true, false, true, false], [true, false, true, true, true, false, false, false, true, false], [true, false, true, true, true, false, true, false, true, false], [true, false, true, true, true, true, false, false, true, false], [true, false, true, true, true, true, true, false, true, false], [true, true, false, false, false, false, false, false, false], [true, true, false, false, false, false, true, false, false]]
def pSe : List (List Bool) := [[true, true, false, false, true, false, false, false, false], [true, true, false, false, true, false, true, false, true, true], [true, true, false, false, true, true, false, true, true, false], [true, true, false, false, true, true, true, true, true, true], [true, true, false, true, false, false, true, false, true, false], [true, true, false, true, false, true, false, false, true, true], [true, true, false, true, false, true, true, true, false], [true, true, false, true, true, false, false, true, true, true], [true, true, false, true, true, true, false, false, false], [true, true, false, true, true, true, true, false, true, false], [true, true, true, false, false, false, false, false, true, true], [true, true, true, false, false, false, true, true, true, false], [true, true, true, false, false, true, true, false, false], [true, true, true, false, true, false, false, false, true, true], [true, true, true, false, true, false, true, true, true, false], [true, true, true, false, true, true, true, false, false], [true, true, true, true, false, false, false, false, true, false], [true, true, true, true, false, false, true, true, false], [true, true, true, true, false, true, false, true, true, true], [true, true, true, true, true, false, false, false, false], [true, true, true, true, true, false, true, false, true, true], [true, true, true, true, true, true, false, true, true, false]]
def pSc : List (List Bool) := [[true, true, false, false, true, false, false, false, true, false], [true, true, false, false, true, false, true, true, false], [true, true, false, false, true, true, false, true, true, true], [true, true, false, true, false, false, false, false, false], [true, true, false, true, false, false, true, false, true, true], [true, true, false, true, false, true, false, true, false], [true, true, false, true, false, true, true, true, true, false], [true, true, false, true, true, false, true, false, false], [true, true, false, true, true, true, false, false, true, false], [true, true, false, true, true, true, true, false, true, true], [true, true, true, false, false, false, false, true, false], [true, true, true, false, false, false, true, true, true, true], [true, true, true, false, false, true, true, false, true, false], [true, true, true, false, true, false, false, true, false], [true, true, true, false, true, false, true, true, true, true], [true, true, true, false, true, true, true, false, true, false], [true, true, true, true, false, false, false, false, true, true], [true, true, true, true, false, false, true, true, true, false], [true, true, true, true, false, true, true, false, false], [true, true, true, true, true, false, false, false, true, false], [true, true, true, true, true, false, true, true, false], [true, true, true, true, true, true, false, true, true, true]]
def pSa : List (List Bool) := [[true, true, false, false, true, false, false, false, true, true], [true, true, false, false, true, false, true, true, true, false], [true, true, false, false, true, true, true, false, false], [true, true, false, true, false, false, false, false, true, false], [true, true, false, true, false, false, true, true, false], [true, true, false, true, false, true, false, true, true, false], [true, true, false, true, false, true, true, true, true, true], [true, true, false, true, true, false, true, false, true, false], [true, true, false, true, true, true, false, false, true, true], [true, true, false, true, true, true, true, true, false, false], [true, true, true, false, false, false, false, true, true, false], [true, true, true, false, false, true, false, false, false], [true, true, true, false, false, true, true, false, true, true], [true, true, true, false, true, false, false, true, true, false], [true, true, true, false, true, true, false, false, false], [true, true, true, false, true, true, true, false, true, true], [true, true, true, true, false, false, false, true, false], [true, true, true, true, false, false, true, true, true, true], [true, true, true, true, false, true, true, false, true, false], [true, true, true, true, true, false, false, false, true, true], [true, true, true, true, true, false, true, true, true, false], [true, true, true, true, true, true, true, false, false]]
def pSl : List (List Bool) := [[true, true, false, false, true, false, false, true, false], [true, true, false, false, true, false, true, true, true, true], [true, true, false, false, true, true, true, false, true, false], [true, true, false, true, false, false, false, false, true, true], [true, true, false, true, false, false, true, true, true, false], [true, true, false, true, false, true, false, true, true, true], [true, true, false, true, true, false, false, false, false], [true, true, false, true, true, false, true, false, true, true], [true, true, false, true, true, true, false, true, false], [true, true, false, true, true, true, true, true, false, true], [true, true, true, false, false, false, false, true, true, true], [true, true, true, false, false, true, false, false, true, false], [true, true, true, false, false, true, true, true, false], [true, true, true, false, true, false, false, true, true, true], [true, true, true, false, true, true, false, false, true, false], [true, true, true, false, true, true, true, true, false, false], [true, true, true, true, false, false, false, true, true, false], [true, true, true, true, false, true, false, false, false], [true, true, true, true, false, true, true, false, true, true], [true, true, true, true, true, false, false, true, false], [true, true, true, true, true, false, true, true, true, true], [true, true, true, true, true, true, true, false, true, false]]
def pSx : List (List (List Bool)) := [[[true, true, false, false, true, false, false, true, true, false], [true, true, false, false, true, false, false, true, true, true], [true, true, false, false, true, false, true, false, false], [true, true, false, false, true, false, true, false, true, false]], [[true, true, false, false, true, true, false, false, false], [true, true, false, false, true, true, false, false, true, false], [true, true, false, false, true, true, false, false, true, true], [true, true, false, false, true, true, false, true, false]], [[true, true, false, false, true, true, true, false, true, true], [true, true, false, false, true, true, true, true, false, false], [true, true, false, false, true, true, true, true, false, true], [true, true, false, false, true, true, true, true, true, false]], [[true, true, false, true, false, false, false, true, false], [true, true, false, true, false, false, false, true, true, false], [true, true, false, true, false, false, false, true, true, true], [true, true, false, true, false, false, true, false, false]], [[true, true, false, true, false, false, true, true, true, true], [true, true, false, true, false, true, false, false, false], [true, true, false, true, false, true, false, false, true, false]], [[true, true, false, true, false, true, true, false, false], [true, true, false, true, false, true, true, false, true, false], [true, true, false, true, false, true, true, false, true, true]], [[true, true, false, true, true, false, false, false, true, false], [true, true, false, true, true, false, false, false, true, true], [true, true, false, true, true, false, false, true, false], [true, true, false, true, true, false, false, true, true, false]], [[true, true, false, true, true, false, true, true, false], [true, true, false, true, true, false, true, true, true, false], [true, true, false, true, true, false, true, true, true, true]], [[true, true, false, true, true, true, false, true, true, false], [true, true, false, true, true, true, false, true, true, true], [true, true, false, true, true, true, true, false, false]], [[true, true, false, true, true, true, true, true, true, false], [true, true, false, true, true, true, true, true, true, true], [true, true, true, false, false, false, false, false, false], [true, true, true, false, false, false, false, false, true, false]], [[true, true, true, false, false, false, true, false, false], [true, true, true, false, false, false, true, false, true, false], [true, true, true, false, false, false, true, false, true, true], [true, true, true, false, false, false, true, true, false]], [[true, true, true, false, false, true, false, false, true, true], [true, true, true, false, false, true, false, true, false], [true, true, true, false, false, true, false, true, true, false], [true, true, true, false, false, true, false, true, true, true]], [[true, true, true, false, false, true, true, true, true, false], [true, true, true, false, false, true, true, true, true, true], [true, true, true, false, true, false, false, false, false], [true, true, true, false, true, false, false, false, true, false]], [[true, true, true, false, true, false, true, false, false], [true, true, true, false, true, false, true, false, true, false], [true, true, true, false, true, false, true, false, true, true], [true, true, true, false, true, false, true, true, false]], [[true, true, true, false, true, true, false, false, true, true], [true, true, true, false, true, true, false, true, false], [true, true, true, false, true, true, false, true, true, false], [true, true, true, false, true, true, false, true, true, true]], [[true, true, true, false, true, true, true, true, false, true], [true, true, true, false, true, true, true, true, true, false], [true, true, true, false, true, true, true, true, true, true], [true, true, true, true, false, false, false, false, false]], [[true, true, true, true, false, false, false, true, true, true], [true, true, true, true, false, false, true, false, false], [true, true, true, true, false, false, true, false, true, false], [true, true, true, true, false, false, true, false, true, true]], [[true, true, true, true, false, true, false, false, true, false], [true, true, true, true, false, true, false, false, true, true], [true, true, true, true, false, true, false, true, false], [true, true, true, true, false, true, false, true, true, false]], [[true, true, true, true, false, true, true, true, false, false], [true, true, true, true, false, true, true, true, false, true], [true, true, true, true, false, true, true, true, true, false], [true, true, true, true, false, true, true, true, true, true]], [[true, true, true, true, true, false, false, true, true, false], [true, true, true, true, true, false, false, true, true, true], [true, true, true, true, true, false, true, false, false], [true, true, true, true, true, false, true, false, true, false]], [[true, true, true, true, true, true, false, false, false], [true, true, true, true, true, true, false, false, true, false], [true, true, true, true, true, true, false, false, true, true], [true, true, true, true, true, true, false, true, false]], [[true, true, true, true, true, true, true, false, true, true], [true, true, true, true, true, true, true, true, false, false], [true, true, true, true, true, true, true, true, false, true], [true, true, true, true, true, true, true, true, true, false]]]
def pMx : List (List Bool) := [[true, false, false, false, false, true, false, false, true, false], [true, false, false, false, false, true, false, false, true, true], [true, false, false, false, false, true, false, true, false], [true, false, false, false, false, true, false, true, true, false], [true, false, false, false, false, true, false, true, true, true], [true, false, false, false, false, true, true, false, false], [true, false, false, false, false, true, true, false, true, false], [true, false, false, false, false, true, true, false, true, true], [true, false, false, false, false, true, true, true, false], [true, false, false, false, false, true, true, true, true, false], [true, false, false, false, false, true, true, true, true, true], [true, false, false, false, true, false, false, false, false], [true, false, false, false, true, false, false, false, true, false], [true, false, false, false, true, false, false, false, true, true], [true, false, false, false, true, false, false, true, false], [true, false, false, false, true, false, false, true, true, false], [true, false, false, false, true, false, false, true, true, true], [true, false, false, false, true, false, true, false, false], [true, false, false, false, true, false, true, false, true, false], [true, false, false, false, true, false, true, false, true, true], [true, false, false, false, true, false, true, true, false], [true, false, false, false, true, false, true, true, true, false]]
def pWx : List (List Bool) := [[true, false, false, false, true, true, true, false, true, false], [true, false, false, false, true, true, true, false, true, true], [true, false, false, false, true, true, true, true, false, false], [true, false, false, false, true, true, true, true, false, true], [true, false, false, false, true, true, true, true, true, false], [true, false, false, false, true, true, true, true, true, true], [true, false, false, true, false, false, false, false, false], [true, false, false, true, false, false, false, false, true, false], [true, false, false, true, false, false, false, false, true, true], [true, false, false, true, false, false, false, true, false], [true, false, false, true, false, false, false, true, true, false], [true, false, false, true, false, false, false, true, true, true], [true, false, false, true, false, false, true, false, false], [true, false, false, true, false, false, true, false, true, false], [true, false, false, true, false, false, true, false, true, true], [true, false, false, true, false, false, true, true, false], [true, false, false, true, false, false, true, true, true, false], [true, false, false, true, false, false, true, true, true, true], [true, false, false, true, false, true, false, false, false], [true, false, false, true, false, true, false, false, true, false], [true, false, false, true, false, true, false, false, true, true], [true, false, false, true, false, true, false, true, false]]
def sIx : List Nat := [106, 110, 111, 112, 113, 114, 115, 116, 117, 118, 119, 120, 121, 122, 123, 124, 125, 126, 127, 128, 129, 130]
abbrev tWay (k : Nat) : Term := .static "RootedFerry$Way" (wayN.getD k "") "LRootedFerry$Way;"
abbrev tCmd (k : Nat) : Term := .static "RootedFerry$Command" (cmdN.getD k "") "LRootedFerry$Command;"
abbrev tStr (k : Nat) : Term := .string "RootedFerry$Command" (sIx.getD k 0)
abbrev tVal (k : Nat) : Term := .field (tStr k) "java/lang/String" "value" "[B"
abbrev tCOM : Term := .static "RootedFerry" "COMMANDS" "[LRootedFerry$Command;"
abbrev tSWM : Term := .static "RootedFerry$1" "$SwitchMap$RootedFerry$Command" "[I"
abbrev tEMP : Term := .static "java/util/ArrayList" "DEFAULTCAPACITY_EMPTY_ELEMENTDATA" "[Ljava/lang/Object;"
set_option maxRecDepth 20000 in
theorem flw_way : ∀ k, k < 4 → atP NR (pWe.getD k []) = some (.exactly (tWay k) "RootedFerry$Way") ∧ atP NR (pWo.getD k []) = some (.eq (.field (tWay k) "java/lang/Enum" "ordinal" "I") (.int (nI k))) := by decide +kernel
set_option maxRecDepth 20000 in
theorem flw_cmd : ∀ k, k < 22 → atP NR (pCe.getD k []) = some (.exactly (tCmd k) "RootedFerry$Command") ∧ atP NR (pCl.getD k []) = some (.eq (.field (tCmd k) "RootedFerry$Command" "letters" "Ljava/lang/String;") (tStr k)) ∧ atP NR (pCa.getD k []) = some (.eq (.field (tCmd k) "RootedFerry$Command" "argument" "I") (.int (cArg.getD k 0))) ∧ atP NR (pCw.getD k []) = some (.eq (.field (tCmd k) "RootedFerry$Command" "withoutLogin" "Z") (.int (cWL.getD k 0))) ∧ atP NR (pCd.getD k []) = some (.eq (.field (tCmd k) "RootedFerry$Command" "duringTransfer" "Z") (.int (cDT.getD k 0))) ∧ atP NR (pCo.getD k []) = some (.eq (.field (tCmd k) "java/lang/Enum" "ordinal" "I") (.int (nI k))) := by decide +kernel
set_option maxRecDepth 20000 in
theorem flw_str : ∀ k, k < 22 → atP NR (pSe.getD k []) = some (.exactly (tStr k) "java/lang/String") ∧ atP NR (pSc.getD k []) = some (.eq (.field (tStr k) "java/lang/String" "coder" "B") (.int 0)) ∧ atP NR (pSa.getD k []) = some (.arrayOf (tVal k) .byte) ∧ atP NR (pSl.getD k []) = some (.eq (.length (tVal k)) (.int (nI (sLen k)))) := by decide +kernel
set_option maxRecDepth 20000 in
theorem flw_chr : ∀ k, k < 22 → ∀ j, j < sLen k → atP NR ((pSx.getD k []).getD j []) = some (.eq (.elem (tVal k) (.int (nI j))) (.int (sCh k j))) := by decide +kernel
set_option maxRecDepth 20000 in
theorem flw_com : atP NR [true, false, false, false, false, false, true, true, true, false] = some (.arrayOf tCOM (.object "RootedFerry$Command")) ∧ atP NR [true, false, false, false, false, false, true, true, true, true] = some (.eq (.length tCOM) (.int 22)) ∧ ∀ j, j < 22 → atP NR (pMx.getD j []) = some (.eq (.elem tCOM (.int (nI j))) (tCmd j)) := by decide +kernel
set_option maxRecDepth 20000 in
theorem flw_swm : atP NR [true, false, false, false, true, true, false, true, true, true] = some (.arrayOf tSWM .int) ∧ atP NR [true, false, false, false, true, true, true, false, false] = some (.eq (.length tSWM) (.int 22)) ∧ ∀ j, j < 22 → atP NR (pWx.getD j []) = some (.eq (.elem tSWM (.int (nI j))) (.int (swm.getD j 0))) := by decide +kernel
set_option maxRecDepth 20000 in
theorem flw_emp : atP NR [true, false, false, false, false, false, false, true, false] = some (.arrayOf tEMP (.object "java/lang/Object")) ∧ atP NR [true, false, false, false, false, false, false, true, true, true] = some (.eq (.length tEMP) (.int 0)) := by decide +kernel
set_option maxRecDepth 20000 in
theorem flw_one : atP NR [true, false, false, false, true, false, true, true, true, true] = some (.eq (.static "java/lang/String" "COMPACT_STRINGS" "Z") (.int 1)) ∧ atP NR [true, false, false, false, true, true, false, false, false] = some (.isRef (.static "jdk/internal/util/Preconditions" "SIOOBE_FORMATTER" "Ljava/util/function/BiFunction;")) := by decide +kernel
theorem of_inj {o n d : String} {v w : Value} {t : Nat} {A : Nat → Prop} {U : State} {H : Heap} (h1 : va_OF o n d v t A U H) (h2 : va_OF o n d w t A U H) : v = w := by
  obtain ⟨cf, k, i, f, cell, a1, a2, a3, a4, a5, a6⟩ := h1
  obtain ⟨cf', k', i', f', cell', b1, b2, b3, b4, b5, b6⟩ := h2
  cases a1.symm.trans b1
  cases a3.symm.trans b3
  exact Option.some.inj (a5.symm.trans b5)
theorem exa_of {args : Array Value} {s : State} {t : Term} {nm : String} {A : Nat → Prop} (hex : (Jvm.Cond.exactly t nm).before args s = true) (hA : ∀ a : Nat, a < s.heap.size → ¬ A a) : ∃ a : Nat, t.eval args s none [] s = some (.ref a) ∧ va_O nm a A s s.heap := by
  obtain ⟨a, c, cell, k, q1, q2, q3, q4, q5, q6, -⟩ := Cond.exactly_spec hex
  exact ⟨a, q1, cell, q3, q5, by rw [q6]; exact q2, hA a (Array.getElem?_eq_some_iff.mp q3).1⟩

set_option maxRecDepth 20000 in
theorem cls_start {s : State} {args : Array Value} (hts : ∀ w ∈ TT, w.before args s = true) : ∃ (dC : Nat → ClassId) (dI : Nat → Nat → Nat), ∀ (k : Nat) (q : vw_C), vwCl[k]? = some q → u_Kn s q.1 q.2.1 q.2.2 (dC k) (dI k) := by
  obtain ⟨c0, i0, h0⟩ := u_known (C := RJx4a65c) (T := TJx4a65c) (N := 3) (n := 3) hts wi_Jx4a65c (hts (.instantiable "java/util/ArrayList" 3) (TT_of (i := 172) (by decide +kernel) (by decide +kernel)))
  obtain ⟨c1, i1, h1⟩ := u_known (C := RX1) (T := TX1) (N := 3) (n := 3) hts wi_X1 (hts (.instantiable "RootedFerry$Account" 3) (TT_of (i := 396) (by decide +kernel) (by decide +kernel)))
  obtain ⟨c2, i2, h2⟩ := u_known (C := RX2) (T := TX2) (N := 8) (n := 8) hts wi_X2 (hts (.instantiable "RootedFerry$Cargo" 8) (TT_of (i := 243) (by decide +kernel) (by decide +kernel)))
  obtain ⟨c3, i3, h3⟩ := u_known (C := RX4) (T := TX4) (N := 2) (n := 2) hts wi_X4 (hts (.instantiable "RootedFerry$Line" 2) (TT_of (i := 106) (by decide +kernel) (by decide +kernel)))
  obtain ⟨c4, i4, h4⟩ := u_known (C := RX5) (T := TX5) (N := 3) (n := 3) hts wi_X5 (hts (.instantiable "RootedFerry$Memory" 3) (TT_of (i := 281) (by decide +kernel) (by decide +kernel)))
  obtain ⟨c5, i5, h5⟩ := u_known (C := RX6) (T := TX6) (N := 2) (n := 2) hts wi_X6 (hts (.instantiable "RootedFerry$Message" 2) (TT_of (i := 230) (by decide +kernel) (by decide +kernel)))
  obtain ⟨c6, i6, h6⟩ := u_known (C := RX8) (T := TX8) (N := 6) (n := 6) hts wi_X8 (hts (.instantiable "RootedFerry$Node" 6) (TT_of (i := 127) (by decide +kernel) (by decide +kernel)))
  obtain ⟨c7, i7, h7⟩ := u_known (C := RX9) (T := TX9) (N := 7) (n := 7) hts wi_X9 (hts (.instantiable "RootedFerry$Path" 7) (TT_of (i := 198) (by decide +kernel) (by decide +kernel)))
  obtain ⟨c8, i8, h8⟩ := u_known (C := RX10) (T := TX10) (N := 1) (n := 1) hts wi_X10 (hts (.instantiable "RootedFerry$Tree" 1) (TT_of (i := 120) (by decide +kernel) (by decide +kernel)))
  obtain ⟨c9, i9, h9⟩ := u_known (C := RX12) (T := TX12) (N := 16) (n := 16) hts wi_X12 (hts (.instantiable "RootedFerry" 16) (TT_of (i := 98) (by decide +kernel) (by decide +kernel)))
  obtain ⟨c10, i10, h10⟩ := u_known (C := RX13) (T := TX13) (N := 36) (n := 36) hts wi_X13 (hts (.instantiable "RootedFerryModel" 36) (TT_of (i := 899) (by decide +kernel) (by decide +kernel)))
  refine ⟨fun k => [c0, c1, c2, c3, c4, c5, c6, c7, c8, c9, c10].getD k c0, fun k => [i0, i1, i2, i3, i4, i5, i6, i7, i8, i9, i10].getD k i0, ?_⟩
  intro k q hq
  match k, hq with
  | 0, hq => cases hq; exact h0
  | 1, hq => cases hq; exact h1
  | 2, hq => cases hq; exact h2
  | 3, hq => cases hq; exact h3
  | 4, hq => cases hq; exact h4
  | 5, hq => cases hq; exact h5
  | 6, hq => cases hq; exact h6
  | 7, hq => cases hq; exact h7
  | 8, hq => cases hq; exact h8
  | 9, hq => cases hq; exact h9
  | 10, hq => cases hq; exact h10
  | k + 11, hq => simp [vwCl] at hq
theorem arr_start {s : State} {args : Array Value} (hts : ∀ w ∈ lw_tbl, w.before args s = true) : ∃ aid : Nat → ClassId, ∀ k, k < 5 → ArrOfT s (aid k) (aTy k) ∧ va_RA s (aid k) (aTy k) := by
  obtain ⟨a0, k0, m0, f0, g0, e0⟩ := Cond.arrayClass_spec (hts (.arrayClass .int) (List.mem_of_getElem? (i := 166) (by decide +kernel)))
  obtain ⟨a1, k1, m1, f1, g1, e1⟩ := Cond.arrayClass_spec (hts (.arrayClass .char) (List.mem_of_getElem? (i := 118) (by decide +kernel)))
  obtain ⟨a2, k2, m2, f2, g2, e2⟩ := Cond.arrayClass_spec (hts (.arrayClass .long) (List.mem_of_getElem? (i := 228) (by decide +kernel)))
  obtain ⟨m3, a3, k3, b3, d3, f3, g3, e3⟩ := Cond.arrayOver_spec (hts (.arrayOver (.object "RootedFerry$Node")) (List.mem_of_getElem? (i := 126) (by decide +kernel)))
  obtain ⟨m4, a4, k4, b4, d4, f4, g4, e4⟩ := Cond.arrayOver_spec (hts (.arrayOver (.object "java/lang/Object")) (List.mem_of_getElem? (i := 464) (by decide +kernel)))
  refine ⟨fun k => [a0, a1, a2, a3, a4].getD k a0, fun k hk => ?_⟩
  rcases (show k = 0 ∨ k = 1 ∨ k = 2 ∨ k = 3 ∨ k = 4 by omega) with rfl | rfl | rfl | rfl | rfl
  · exact ⟨fun n z => ⟨fun k h => (by cases h), k0, g0, m0, e0⟩, f0⟩
  · exact ⟨fun n z => ⟨fun k h => (by cases h), k1, g1, m1, e1⟩, f1⟩
  · exact ⟨fun n z => ⟨fun k h => (by cases h), k2, g2, m2, e2⟩, f2⟩
  · exact ⟨fun n z => ⟨fun k h => (by cases h), k3, f3, m3, g3⟩, k3, m3, f3, g3, b3, e3⟩
  · exact ⟨fun n z => ⟨fun k h => (by cases h), k4, f4, m4, g4⟩, k4, m4, f4, g4, b4, e4⟩
set_option maxRecDepth 20000 in
theorem gf_start {s : State} {b : Nat} (hts : ∀ w ∈ lw_tbl, w.before #[Value.ref b] s = true) (hgv : (Jvm.Cond.and given_1 narrow_1).before #[Value.ref b] s = true) : ∃ G : GG, G.1 = s.heap.size ∧ loc G (108, 0) = b ∧ GF G s s.heap := by
  have hs : ∀ {p : List Bool} {w : Jvm.Cond}, atP NR p = some w → w.before #[Value.ref b] s = true := fun h => atP_before _ _ _ h hgv
  have htt : ∀ w ∈ TT, w.before #[Value.ref b] s = true := fun w h => hts w (List.mem_filter.mp h).1
  have hA : ∀ a : Nat, a < s.heap.size → ¬ (fun q : Nat => s.heap.size ≤ q) a := fun a h => Nat.not_le.mpr h
  have iW := hts (.initialized "RootedFerry$Way") (List.mem_of_getElem? (i := 83) (by decide +kernel))
  have iR := hts (.initialized "RootedFerry") (List.mem_of_getElem? (i := 71) (by decide +kernel))
  have i1 := hts (.initialized "RootedFerry$1") (List.mem_of_getElem? (i := 96) (by decide +kernel))
  have iS := hts (.initialized "java/lang/String") (List.mem_of_getElem? (i := 93) (by decide +kernel))
  have iP := hts (.initialized "jdk/internal/util/Preconditions") (List.mem_of_getElem? (i := 87) (by decide +kernel))
  have iA := hts (.initialized "java/util/ArrayList") (List.mem_of_getElem? (i := 77) (by decide +kernel))
  obtain ⟨dC, dI, hcls⟩ := cls_start htt
  obtain ⟨aid, harr⟩ := arr_start hts
  have hw : ∀ k, ∃ a : Nat, k < 4 → (tWay k).eval #[Value.ref b] s none [] s = some (.ref a) ∧ va_O "RootedFerry$Way" a (fun q : Nat => s.heap.size ≤ q) s s.heap := by
    intro k
    by_cases hk : k < 4
    · obtain ⟨a, h1, h2⟩ := exa_of (hs (flw_way k hk).1) hA
      exact ⟨a, fun _ => ⟨h1, h2⟩⟩
    · exact ⟨0, fun h => absurd h hk⟩
  obtain ⟨wa, hwa⟩ := Classical.axiomOfChoice hw
  have hc : ∀ k, ∃ a : Nat, k < 22 → (tCmd k).eval #[Value.ref b] s none [] s = some (.ref a) ∧ va_O "RootedFerry$Command" a (fun q : Nat => s.heap.size ≤ q) s s.heap := by
    intro k
    by_cases hk : k < 22
    · obtain ⟨a, h1, h2⟩ := exa_of (hs (flw_cmd k hk).1) hA
      exact ⟨a, fun _ => ⟨h1, h2⟩⟩
    · exact ⟨0, fun h => absurd h hk⟩
  obtain ⟨ca, hca⟩ := Classical.axiomOfChoice hc
  have hst : ∀ k, ∃ a : Nat, k < 22 → (tStr k).eval #[Value.ref b] s none [] s = some (.ref a) ∧ va_O "java/lang/String" a (fun q : Nat => s.heap.size ≤ q) s s.heap := by
    intro k
    by_cases hk : k < 22
    · obtain ⟨a, h1, h2⟩ := exa_of (hs (flw_str k hk).1) hA
      exact ⟨a, fun _ => ⟨h1, h2⟩⟩
    · exact ⟨0, fun h => absurd h hk⟩
  obtain ⟨sa, hsa⟩ := Classical.axiomOfChoice hst
  have hbt : ∀ k, ∃ a : Nat, k < 22 → (tVal k).eval #[Value.ref b] s none [] s = some (.ref a) ∧ va_T .byte a (sLen k) (fun j => .int (sCh k j)) (fun q : Nat => s.heap.size ≤ q) s s.heap := by
    intro k
    by_cases hk : k < 22
    · obtain ⟨-, -, h3, h4⟩ := flw_str k hk
      have hN : sLen k < 2 ^ 31 := by
        have : ∀ k, k < 22 → sLen k < 10 := by decide +kernel
        have := this k hk
        omega
      obtain ⟨a, h1, h2⟩ := va_Tof (f := fun j => .int (sCh k j)) hN (hs h3) (va_eqt (hs h4)) (fun j hj => va_eqt (hs (flw_chr k hk j hj))) hA
      exact ⟨a, fun _ => ⟨h1, h2⟩⟩
    · exact ⟨0, fun h => absurd h hk⟩
  obtain ⟨ba, hba⟩ := Classical.axiomOfChoice hbt
  obtain ⟨cm, hcm1, hcm2⟩ := va_Tof (N := 22) (f := fun j => .ref (ca j)) (by decide) (hs flw_com.1) (va_eqt (hs flw_com.2.1)) (fun j hj => va_eqv (hs (flw_com.2.2 j hj)) (hca j hj).1) hA
  obtain ⟨sm, hsm1, hsm2⟩ := va_Tof (N := 22) (f := fun j => .int (swm.getD j 0)) (by decide) (hs flw_swm.1) (va_eqt (hs flw_swm.2.1)) (fun j hj => va_eqt (hs (flw_swm.2.2 j hj))) hA
  obtain ⟨em, hem1, hem2⟩ := va_Tof (N := 0) (f := fun _ => .null) (by decide) (hs flw_emp.1) (va_eqt (hs flw_emp.2)) (fun j hj => absurd hj (by omega)) hA
  obtain ⟨fo, hfo⟩ : ∃ fo : Nat, va_Z "jdk/internal/util/Preconditions" "SIOOBE_FORMATTER" "Ljava/util/function/BiFunction;" .null (fun q : Nat => s.heap.size ≤ q) s s.heap ∨ va_Z "jdk/internal/util/Preconditions" "SIOOBE_FORMATTER" "Ljava/util/function/BiFunction;" (.ref fo) (fun q : Nat => s.heap.size ≤ q) s s.heap := by
    rcases va_Zqof (hts (.laysStatic "jdk/internal/util/Preconditions" "SIOOBE_FORMATTER" "Ljava/util/function/BiFunction;") (List.mem_of_getElem? (i := 558) (by decide +kernel))) iP (hs flw_one.2) hA with h | ⟨t, h⟩
    · exact ⟨0, Or.inl h⟩
    · exact ⟨t, Or.inr h⟩
  let cst : Ad → Nat := fun a => if a.1 = 100 then ca a.2 else if a.1 = 101 then sa a.2 else if a.1 = 102 then wa a.2 else if a.1 = 103 then cm else if a.1 = 104 then sm else if a.1 = 105 then ba a.2 else if a.1 = 107 then fo else if a.1 = 108 then b else em
  let G : GG := (s.heap.size, cst, (dC, dI), aid)
  have e100 : ∀ k, loc G (100, k) = ca k := fun k => by simp [loc, G, cst]
  have e101 : ∀ k, loc G (101, k) = sa k := fun k => by simp [loc, G, cst]
  have e102 : ∀ k, loc G (102, k) = wa k := fun k => by simp [loc, G, cst]
  have e103 : loc G (103, 0) = cm := by simp [loc, G, cst]
  have e104 : loc G (104, 0) = sm := by simp [loc, G, cst]
  have e105 : ∀ k, loc G (105, k) = ba k := fun k => by simp [loc, G, cst]
  have e107 : loc G (107, 0) = fo := by simp [loc, G, cst]
  have e108 : loc G (108, 0) = b := by simp [loc, G, cst]
  have e16 : loc G (16, 0) = em := by simp [loc, G, cst]
  have oW : ∀ k, k < 4 → va_OF "java/lang/Enum" "ordinal" "I" (.int (nI k)) (wa k) (fun q : Nat => s.heap.size ≤ q) s s.heap := fun k hk => vk_OFof (hwa k hk).1 (va_eqt (hs (flw_way k hk).2)) hA
  refine ⟨G, rfl, e108, ⟨hcls, fun k q hq => ?_⟩, fun i j hi hj hij => ?_, ⟨fun k hk => ?_, ?_, ?_, ?_, ?_, ?_, ?_, ?_, ?_⟩, fun k hk => ?_, ?_⟩
  · have hk : k < 5 := by
      have := (List.getElem?_eq_some_iff.mp hq).1
      simpa [tysL] using this
    rw [tys_at G hk] at hq
    cases hq
    exact harr k hk
  · rw [e102, e102] at hij
    have h1 := oW i hi
    rw [hij] at h1
    have h2 := of_inj h1 (oW j hj)
    have h3 : nI i = nI j := by injection h2
    exact (nI_eq (by omega) (by omega)).mp h3
  · rw [e102]
    have hl : Jvm.Cond.laysStatic "RootedFerry$Way" (wayN.getD k "") "LRootedFerry$Way;" ∈ lw_tbl := by
      rcases (show k = 0 ∨ k = 1 ∨ k = 2 ∨ k = 3 by omega) with rfl | rfl | rfl | rfl
      · exact List.mem_of_getElem? (i := 300) (by decide +kernel)
      · exact List.mem_of_getElem? (i := 822) (by decide +kernel)
      · exact List.mem_of_getElem? (i := 746) (by decide +kernel)
      · exact List.mem_of_getElem? (i := 748) (by decide +kernel)
    exact va_Zref (hts _ hl) iW (hwa k hk).1 hA
  · rw [e103]; exact va_Zref (hts (.laysStatic "RootedFerry" "COMMANDS" "[LRootedFerry$Command;") (List.mem_of_getElem? (i := 517) (by decide +kernel))) iR hcm1 hA
  · rw [e103]
    simp only [e100]
    exact hcm2
  · rw [e104]; exact va_Zref (hts (.laysStatic "RootedFerry$1" "$SwitchMap$RootedFerry$Command" "[I") (List.mem_of_getElem? (i := 667) (by decide +kernel))) i1 hsm1 hA
  · rw [e104]; exact hsm2
  · exact va_Zof (hts (.laysStatic "java/lang/String" "COMPACT_STRINGS" "Z") (List.mem_of_getElem? (i := 535) (by decide +kernel))) iS (va_eqi (hs flw_one.1)) hA
  · rw [e107]; exact hfo
  · rw [e16]; exact va_Zref (hts (.laysStatic "java/util/ArrayList" "DEFAULTCAPACITY_EMPTY_ELEMENTDATA" "[Ljava/lang/Object;") (List.mem_of_getElem? (i := 184) (by decide +kernel))) iA hem1 hA
  · rw [e16]; exact hem2
  · obtain ⟨c1, c2, c3, c4, c5, c6⟩ := flw_cmd k hk
    obtain ⟨d1, d2, d3, d4⟩ := flw_str k hk
    unfold KF2
    rw [e100, e101, e105]
    exact ⟨(hca k hk).2, vk_OFof (hca k hk).1 (va_eqv (hs c2) (hsa k hk).1) hA, vk_OFof (hca k hk).1 (va_eqt (hs c3)) hA, vk_OFof (hca k hk).1 (va_eqt (hs c4)) hA, vk_OFof (hca k hk).1 (va_eqt (hs c5)) hA, vk_OFof (hca k hk).1 (va_eqt (hs c6)) hA, (hsa k hk).2, vk_OFof (hsa k hk).1 (hba k hk).1 hA, vk_OFof (hsa k hk).1 (va_eqt (hs d2)) hA, (hba k hk).2⟩
  · exact ⟨va_AO.of (hts _ (List.mem_of_getElem? (i := 126) (by decide +kernel))), va_AO.of (hts _ (List.mem_of_getElem? (i := 464) (by decide +kernel))), va_Nw.of rfl (hts _ (List.mem_of_getElem? (i := 1241) (by decide +kernel))), va_Nw.of rfl (hts _ (List.mem_of_getElem? (i := 107) (by decide +kernel))), va_Nw.of rfl (hts _ (List.mem_of_getElem? (i := 128) (by decide +kernel))), va_Nw.of rfl (hts _ (List.mem_of_getElem? (i := 199) (by decide +kernel))), va_Nw.of rfl (hts _ (List.mem_of_getElem? (i := 231) (by decide +kernel))), va_Nw.of rfl (hts _ (List.mem_of_getElem? (i := 244) (by decide +kernel))), va_Nw.of rfl (hts _ (List.mem_of_getElem? (i := 282) (by decide +kernel)))⟩
