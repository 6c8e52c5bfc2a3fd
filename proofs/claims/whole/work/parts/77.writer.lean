/-! answer: what both writers do, entry by entry -/
/-- an entry that waits: 0 a term, 1 the rest of a list, 2 a letter -/
abbrev It : Type := Nat × Nat
/-- a variable's number -/
def nuN (N : List Nat) (c : Nat) : List Nat := if c ∈ N then N else N ++ [c]
def vtx (k : Nat) : List Int := if k < 10 then [95, 48 + (k : Int) % 10] else [95, 48 + (k : Int) / 10, 48 + (k : Int) % 10]
def wdL (w : Nat) : List Int := ((List.range 8).map (fun j => (((w / 2 ^ (8 * j)) &&& 255 : Nat) : Int))).filter (fun x => decide (x ≠ 0))
/-- the arguments, each behind its letter, and the last bracket -/
def aIt (E : List Sy) (c n : Nat) : List It := if n = 0 then [] else ((List.range n).map (fun j => [((2, if j = 0 then 40 else 44) : It), (0, ch E c j)])).flatten ++ [(2, 41)]
def stp (E : List Sy) (g : Nat → Nat) (i : It) (N : List Nat) : List Int × List It × List Nat :=
  if i.1 = 0 then (if (en E (g i.2)).1 = -1 then (vtx (idx (nuN N (g i.2)) (g i.2)), [], nuN N (g i.2)) else if en E (g i.2) = (0, 2) then ([91, 93], [], N) else if en E (g i.2) = (2, 1) then ([91], [(0, ch E (g i.2) 0), (1, ch E (g i.2) 1)], N) else (wdL (en E (g i.2)).2, aIt E (g i.2) (nA E (g i.2)), N))
  else if i.1 = 1 then (if en E (g i.2) = (0, 2) then ([93], [], N) else if en E (g i.2) = (2, 1) then ([44], [(0, ch E (g i.2) 0), (1, ch E (g i.2) 1)], N) else ([124], [(0, g i.2), (2, 93)], N))
  else ([(i.2 : Int)], [], N)
/-- all entries, one after the other -/
def wrk (E : List Sy) (g : Nat → Nat) : Nat → List It → List Nat → List Int → Option (List Int × List Nat)
  | 0, _, _, _ => none
  | _ + 1, [], N, out => some (out, N)
  | n + 1, i :: st, N, out => wrk E g n ((stp E g i N).2.1 ++ st) (stp E g i N).2.2 (out ++ (stp E g i N).1)
theorem TL_step {E : List Sy} {g : Nat → Nat} {D x : Nat} (h : Dp E g D x) : (TL E g D x).length = 1 + ((List.range (nA E (g x))).map (fun k => (TL E g D (ch E (g x) k)).length)).sum := by
  cases D with
  | zero => exact absurd h id
  | succ D =>
    have h : ∀ k, k < nA E (g x) → Dp E g D (ch E (g x) k) := h
    show (g x :: ((List.range (nA E (g x))).map (fun k => TL E g D (ch E (g x) k))).flatten).length = _
    rw [List.length_cons, List.length_flatten, List.map_map, Nat.add_comm]
    congr 2
    refine List.map_congr_left (fun k hk => ?_)
    rw [List.mem_range] at hk
    show (TL E g D (ch E (g x) k)).length = _
    rw [TL_stable (h k hk)]
/-- a measure over what waits -/
def ms (E : List Sy) (g : Nat → Nat) (D a b0 b1 b2 : Nat) (i : It) : Nat := if i.1 = 0 then a * (TL E g D i.2).length + b0 else if i.1 = 1 then a * (TL E g D i.2).length + b1 else b2
