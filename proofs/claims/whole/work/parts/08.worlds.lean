/-! the two worlds: the class's objects and the reference's, by registers (printed by wip/gen/worlds.py) -/
abbrev Ob : Type := (Nat → Int) × (Nat → Int → Int) × (Nat → Nat) × (Nat → Int → Nat)
def sI (o : Ob) (k : Nat) (v : Int) : Ob := (fun j => if j = k then v else o.1 j, o.2)
def sA (o : Ob) (k : Nat) (i v : Int) : Ob := (o.1, fun j => if j = k then updI (o.2.1 k) i v else o.2.1 j, o.2.2)
def sJ (o : Ob) (k : Nat) (v : Nat) : Ob := (o.1, o.2.1, fun j => if j = k then v else o.2.2.1 j, o.2.2.2)
def sL (o : Ob) (k : Nat) (i : Int) (v : Nat) : Ob := (o.1, o.2.1, o.2.2.1, fun j => if j = k then updN (o.2.2.2 k) i v else o.2.2.2 j)
def shC (o0 o1 o2 o3 o4 o5 o6 o7 o8 o9 o10 : Ob) : List AC := [cO 0 [vR 1, vR 7, vR 9, vR 17, vR 38],
  cO 1 [vR 2, vI (o0.1 0)],
  cI 1 240 (o0.2.1 0),
  cO 2 [vR 4, vR 5, vR 6, vI (o1.1 0)],
  cI 1 241 (o1.2.1 0),
  cI 0 241 (o1.2.1 1),
  cL 241 (o1.2.2.2 0),
  cO 3 [vR 8, vI (o2.1 0), vI (o2.1 1), vI (o2.1 2)],
  cL 32 (o2.2.2.2 0),
  cO 4 [vR 10, vR 11, vR 12, vI (o3.1 0), vI (o3.1 1)],
  cI 0 960 (o3.2.1 0),
  cI 0 960 (o3.2.1 1),
  cI 0 24 (o3.2.1 2),
  cO 4 [vR 14, vR 15, vR 16, vI (o4.1 0), vI (o4.1 1)],
  cI 0 240 (o4.2.1 0),
  cI 0 240 (o4.2.1 1),
  cI 0 24 (o4.2.1 2),
  cO 5 [vR 7, vR 3, vR 13, vR 18, vI (o5.1 0), vI (o5.1 1), vI (o5.1 2), vI (o5.1 3), vI (o5.1 4), vI (o5.1 5)],
  cL 8 (o5.2.2.2 0),
  cO 6 [vR 20, vR 21, vR 22, vR 23, vR 24, vR 25, vR 26, vI (o6.1 0), vI (o6.1 1), vI (o6.1 2), vI (o6.1 3)],
  cI 0 2440 (o6.2.1 0),
  cI 0 2440 (o6.2.1 1),
  cI 0 2440 (o6.2.1 2),
  cI 0 2440 (o6.2.1 3),
  cI 0 2440 (o6.2.1 4),
  cI 0 512 (o6.2.1 5),
  cI 0 8 (o6.2.1 6),
  cO 7 [vR 28, vR 29, vR 30, vI (o7.1 0), vI (o7.1 1)],
  cI 0 488 (o7.2.1 0),
  cI 0 488 (o7.2.1 1),
  cI 0 488 (o7.2.1 2),
  cO 8 [vR 32, vR 33, vR 34, vR 35, vR 36, vR 37, vI (o8.1 0)],
  cI 0 60 (o8.2.1 0),
  cI 0 60 (o8.2.1 1),
  cI 0 60 (o8.2.1 2),
  cI 0 60 (o8.2.1 3),
  cI 0 60 (o8.2.1 4),
  cI 0 60 (o8.2.1 5),
  cO 9 [vR 9, vR 7, vR 19, vR 27, vR 31, vR 40, vR 39, vI (o9.1 0), vI (o9.1 1), vI (o9.1 2), vI (o9.1 3), vI (o9.1 4), vI (o9.1 5), vI (o9.1 6)],
  cI 0 8 (o9.2.1 0),
  cO 10 [vR 19, vR 7, vR 41, vR 42, vR 43, vR 44, vI (o10.1 0), vI (o10.1 1), vI (o10.1 2), vI (o10.1 3)],
  cI 1 1200 (o10.2.1 0),
  cI 0 8 (o10.2.1 1),
  cI 0 120 (o10.2.1 2),
  cI 0 512 (o10.2.1 3)]
theorem shC_0 {o0 o1 o2 o3 o4 o5 o6 o7 o8 o9 o10 : Ob} : (shC o0 o1 o2 o3 o4 o5 o6 o7 o8 o9 o10)[0]? = some (cO 0 [vR 1, vR 7, vR 9, vR 17, vR 38]) := rfl
theorem shC_1 {o0 o1 o2 o3 o4 o5 o6 o7 o8 o9 o10 : Ob} : (shC o0 o1 o2 o3 o4 o5 o6 o7 o8 o9 o10)[1]? = some (cO 1 [vR 2, vI (o0.1 0)]) := rfl
theorem shC_2 {o0 o1 o2 o3 o4 o5 o6 o7 o8 o9 o10 : Ob} : (shC o0 o1 o2 o3 o4 o5 o6 o7 o8 o9 o10)[2]? = some (cI 1 240 (o0.2.1 0)) := rfl
theorem shC_3 {o0 o1 o2 o3 o4 o5 o6 o7 o8 o9 o10 : Ob} : (shC o0 o1 o2 o3 o4 o5 o6 o7 o8 o9 o10)[3]? = some (cO 2 [vR 4, vR 5, vR 6, vI (o1.1 0)]) := rfl
theorem shC_4 {o0 o1 o2 o3 o4 o5 o6 o7 o8 o9 o10 : Ob} : (shC o0 o1 o2 o3 o4 o5 o6 o7 o8 o9 o10)[4]? = some (cI 1 241 (o1.2.1 0)) := rfl
theorem shC_5 {o0 o1 o2 o3 o4 o5 o6 o7 o8 o9 o10 : Ob} : (shC o0 o1 o2 o3 o4 o5 o6 o7 o8 o9 o10)[5]? = some (cI 0 241 (o1.2.1 1)) := rfl
theorem shC_6 {o0 o1 o2 o3 o4 o5 o6 o7 o8 o9 o10 : Ob} : (shC o0 o1 o2 o3 o4 o5 o6 o7 o8 o9 o10)[6]? = some (cL 241 (o1.2.2.2 0)) := rfl
theorem shC_7 {o0 o1 o2 o3 o4 o5 o6 o7 o8 o9 o10 : Ob} : (shC o0 o1 o2 o3 o4 o5 o6 o7 o8 o9 o10)[7]? = some (cO 3 [vR 8, vI (o2.1 0), vI (o2.1 1), vI (o2.1 2)]) := rfl
theorem shC_8 {o0 o1 o2 o3 o4 o5 o6 o7 o8 o9 o10 : Ob} : (shC o0 o1 o2 o3 o4 o5 o6 o7 o8 o9 o10)[8]? = some (cL 32 (o2.2.2.2 0)) := rfl
theorem shC_9 {o0 o1 o2 o3 o4 o5 o6 o7 o8 o9 o10 : Ob} : (shC o0 o1 o2 o3 o4 o5 o6 o7 o8 o9 o10)[9]? = some (cO 4 [vR 10, vR 11, vR 12, vI (o3.1 0), vI (o3.1 1)]) := rfl
theorem shC_10 {o0 o1 o2 o3 o4 o5 o6 o7 o8 o9 o10 : Ob} : (shC o0 o1 o2 o3 o4 o5 o6 o7 o8 o9 o10)[10]? = some (cI 0 960 (o3.2.1 0)) := rfl
theorem shC_11 {o0 o1 o2 o3 o4 o5 o6 o7 o8 o9 o10 : Ob} : (shC o0 o1 o2 o3 o4 o5 o6 o7 o8 o9 o10)[11]? = some (cI 0 960 (o3.2.1 1)) := rfl
theorem shC_12 {o0 o1 o2 o3 o4 o5 o6 o7 o8 o9 o10 : Ob} : (shC o0 o1 o2 o3 o4 o5 o6 o7 o8 o9 o10)[12]? = some (cI 0 24 (o3.2.1 2)) := rfl
theorem shC_13 {o0 o1 o2 o3 o4 o5 o6 o7 o8 o9 o10 : Ob} : (shC o0 o1 o2 o3 o4 o5 o6 o7 o8 o9 o10)[13]? = some (cO 4 [vR 14, vR 15, vR 16, vI (o4.1 0), vI (o4.1 1)]) := rfl
theorem shC_14 {o0 o1 o2 o3 o4 o5 o6 o7 o8 o9 o10 : Ob} : (shC o0 o1 o2 o3 o4 o5 o6 o7 o8 o9 o10)[14]? = some (cI 0 240 (o4.2.1 0)) := rfl
theorem shC_15 {o0 o1 o2 o3 o4 o5 o6 o7 o8 o9 o10 : Ob} : (shC o0 o1 o2 o3 o4 o5 o6 o7 o8 o9 o10)[15]? = some (cI 0 240 (o4.2.1 1)) := rfl
theorem shC_16 {o0 o1 o2 o3 o4 o5 o6 o7 o8 o9 o10 : Ob} : (shC o0 o1 o2 o3 o4 o5 o6 o7 o8 o9 o10)[16]? = some (cI 0 24 (o4.2.1 2)) := rfl
theorem shC_17 {o0 o1 o2 o3 o4 o5 o6 o7 o8 o9 o10 : Ob} : (shC o0 o1 o2 o3 o4 o5 o6 o7 o8 o9 o10)[17]? = some (cO 5 [vR 7, vR 3, vR 13, vR 18, vI (o5.1 0), vI (o5.1 1), vI (o5.1 2), vI (o5.1 3), vI (o5.1 4), vI (o5.1 5)]) := rfl
theorem shC_18 {o0 o1 o2 o3 o4 o5 o6 o7 o8 o9 o10 : Ob} : (shC o0 o1 o2 o3 o4 o5 o6 o7 o8 o9 o10)[18]? = some (cL 8 (o5.2.2.2 0)) := rfl
theorem shC_19 {o0 o1 o2 o3 o4 o5 o6 o7 o8 o9 o10 : Ob} : (shC o0 o1 o2 o3 o4 o5 o6 o7 o8 o9 o10)[19]? = some (cO 6 [vR 20, vR 21, vR 22, vR 23, vR 24, vR 25, vR 26, vI (o6.1 0), vI (o6.1 1), vI (o6.1 2), vI (o6.1 3)]) := rfl
theorem shC_20 {o0 o1 o2 o3 o4 o5 o6 o7 o8 o9 o10 : Ob} : (shC o0 o1 o2 o3 o4 o5 o6 o7 o8 o9 o10)[20]? = some (cI 0 2440 (o6.2.1 0)) := rfl
theorem shC_21 {o0 o1 o2 o3 o4 o5 o6 o7 o8 o9 o10 : Ob} : (shC o0 o1 o2 o3 o4 o5 o6 o7 o8 o9 o10)[21]? = some (cI 0 2440 (o6.2.1 1)) := rfl
theorem shC_22 {o0 o1 o2 o3 o4 o5 o6 o7 o8 o9 o10 : Ob} : (shC o0 o1 o2 o3 o4 o5 o6 o7 o8 o9 o10)[22]? = some (cI 0 2440 (o6.2.1 2)) := rfl
theorem shC_23 {o0 o1 o2 o3 o4 o5 o6 o7 o8 o9 o10 : Ob} : (shC o0 o1 o2 o3 o4 o5 o6 o7 o8 o9 o10)[23]? = some (cI 0 2440 (o6.2.1 3)) := rfl
theorem shC_24 {o0 o1 o2 o3 o4 o5 o6 o7 o8 o9 o10 : Ob} : (shC o0 o1 o2 o3 o4 o5 o6 o7 o8 o9 o10)[24]? = some (cI 0 2440 (o6.2.1 4)) := rfl
theorem shC_25 {o0 o1 o2 o3 o4 o5 o6 o7 o8 o9 o10 : Ob} : (shC o0 o1 o2 o3 o4 o5 o6 o7 o8 o9 o10)[25]? = some (cI 0 512 (o6.2.1 5)) := rfl
theorem shC_26 {o0 o1 o2 o3 o4 o5 o6 o7 o8 o9 o10 : Ob} : (shC o0 o1 o2 o3 o4 o5 o6 o7 o8 o9 o10)[26]? = some (cI 0 8 (o6.2.1 6)) := rfl
theorem shC_27 {o0 o1 o2 o3 o4 o5 o6 o7 o8 o9 o10 : Ob} : (shC o0 o1 o2 o3 o4 o5 o6 o7 o8 o9 o10)[27]? = some (cO 7 [vR 28, vR 29, vR 30, vI (o7.1 0), vI (o7.1 1)]) := rfl
theorem shC_28 {o0 o1 o2 o3 o4 o5 o6 o7 o8 o9 o10 : Ob} : (shC o0 o1 o2 o3 o4 o5 o6 o7 o8 o9 o10)[28]? = some (cI 0 488 (o7.2.1 0)) := rfl
theorem shC_29 {o0 o1 o2 o3 o4 o5 o6 o7 o8 o9 o10 : Ob} : (shC o0 o1 o2 o3 o4 o5 o6 o7 o8 o9 o10)[29]? = some (cI 0 488 (o7.2.1 1)) := rfl
theorem shC_30 {o0 o1 o2 o3 o4 o5 o6 o7 o8 o9 o10 : Ob} : (shC o0 o1 o2 o3 o4 o5 o6 o7 o8 o9 o10)[30]? = some (cI 0 488 (o7.2.1 2)) := rfl
theorem shC_31 {o0 o1 o2 o3 o4 o5 o6 o7 o8 o9 o10 : Ob} : (shC o0 o1 o2 o3 o4 o5 o6 o7 o8 o9 o10)[31]? = some (cO 8 [vR 32, vR 33, vR 34, vR 35, vR 36, vR 37, vI (o8.1 0)]) := rfl
theorem shC_32 {o0 o1 o2 o3 o4 o5 o6 o7 o8 o9 o10 : Ob} : (shC o0 o1 o2 o3 o4 o5 o6 o7 o8 o9 o10)[32]? = some (cI 0 60 (o8.2.1 0)) := rfl
theorem shC_33 {o0 o1 o2 o3 o4 o5 o6 o7 o8 o9 o10 : Ob} : (shC o0 o1 o2 o3 o4 o5 o6 o7 o8 o9 o10)[33]? = some (cI 0 60 (o8.2.1 1)) := rfl
theorem shC_34 {o0 o1 o2 o3 o4 o5 o6 o7 o8 o9 o10 : Ob} : (shC o0 o1 o2 o3 o4 o5 o6 o7 o8 o9 o10)[34]? = some (cI 0 60 (o8.2.1 2)) := rfl
theorem shC_35 {o0 o1 o2 o3 o4 o5 o6 o7 o8 o9 o10 : Ob} : (shC o0 o1 o2 o3 o4 o5 o6 o7 o8 o9 o10)[35]? = some (cI 0 60 (o8.2.1 3)) := rfl
theorem shC_36 {o0 o1 o2 o3 o4 o5 o6 o7 o8 o9 o10 : Ob} : (shC o0 o1 o2 o3 o4 o5 o6 o7 o8 o9 o10)[36]? = some (cI 0 60 (o8.2.1 4)) := rfl
theorem shC_37 {o0 o1 o2 o3 o4 o5 o6 o7 o8 o9 o10 : Ob} : (shC o0 o1 o2 o3 o4 o5 o6 o7 o8 o9 o10)[37]? = some (cI 0 60 (o8.2.1 5)) := rfl
theorem shC_38 {o0 o1 o2 o3 o4 o5 o6 o7 o8 o9 o10 : Ob} : (shC o0 o1 o2 o3 o4 o5 o6 o7 o8 o9 o10)[38]? = some (cO 9 [vR 9, vR 7, vR 19, vR 27, vR 31, vR 40, vR 39, vI (o9.1 0), vI (o9.1 1), vI (o9.1 2), vI (o9.1 3), vI (o9.1 4), vI (o9.1 5), vI (o9.1 6)]) := rfl
theorem shC_39 {o0 o1 o2 o3 o4 o5 o6 o7 o8 o9 o10 : Ob} : (shC o0 o1 o2 o3 o4 o5 o6 o7 o8 o9 o10)[39]? = some (cI 0 8 (o9.2.1 0)) := rfl
theorem shC_40 {o0 o1 o2 o3 o4 o5 o6 o7 o8 o9 o10 : Ob} : (shC o0 o1 o2 o3 o4 o5 o6 o7 o8 o9 o10)[40]? = some (cO 10 [vR 19, vR 7, vR 41, vR 42, vR 43, vR 44, vI (o10.1 0), vI (o10.1 1), vI (o10.1 2), vI (o10.1 3)]) := rfl
theorem shC_41 {o0 o1 o2 o3 o4 o5 o6 o7 o8 o9 o10 : Ob} : (shC o0 o1 o2 o3 o4 o5 o6 o7 o8 o9 o10)[41]? = some (cI 1 1200 (o10.2.1 0)) := rfl
theorem shC_42 {o0 o1 o2 o3 o4 o5 o6 o7 o8 o9 o10 : Ob} : (shC o0 o1 o2 o3 o4 o5 o6 o7 o8 o9 o10)[42]? = some (cI 0 8 (o10.2.1 1)) := rfl
theorem shC_43 {o0 o1 o2 o3 o4 o5 o6 o7 o8 o9 o10 : Ob} : (shC o0 o1 o2 o3 o4 o5 o6 o7 o8 o9 o10)[43]? = some (cI 0 120 (o10.2.1 2)) := rfl
theorem shC_44 {o0 o1 o2 o3 o4 o5 o6 o7 o8 o9 o10 : Ob} : (shC o0 o1 o2 o3 o4 o5 o6 o7 o8 o9 o10)[44]? = some (cI 0 512 (o10.2.1 3)) := rfl
theorem shC_1_1 {o0 o1 o2 o3 o4 o5 o6 o7 o8 o9 o10 : Ob} {v : Int} : (shC o0 o1 o2 o3 o4 o5 o6 o7 o8 o9 o10).set 1 (cO 1 ([vR 2, vI (o0.1 0)].set 1 (vI v))) = shC (sI o0 0 v) o1 o2 o3 o4 o5 o6 o7 o8 o9 o10 := rfl
theorem shC_2_s {o0 o1 o2 o3 o4 o5 o6 o7 o8 o9 o10 : Ob} {i v : Int} : (shC o0 o1 o2 o3 o4 o5 o6 o7 o8 o9 o10).set 2 (cI 1 240 (updI (o0.2.1 0) i v)) = shC (sA o0 0 i v) o1 o2 o3 o4 o5 o6 o7 o8 o9 o10 := rfl
theorem shC_3_3 {o0 o1 o2 o3 o4 o5 o6 o7 o8 o9 o10 : Ob} {v : Int} : (shC o0 o1 o2 o3 o4 o5 o6 o7 o8 o9 o10).set 3 (cO 2 ([vR 4, vR 5, vR 6, vI (o1.1 0)].set 3 (vI v))) = shC o0 (sI o1 0 v) o2 o3 o4 o5 o6 o7 o8 o9 o10 := rfl
theorem shC_4_s {o0 o1 o2 o3 o4 o5 o6 o7 o8 o9 o10 : Ob} {i v : Int} : (shC o0 o1 o2 o3 o4 o5 o6 o7 o8 o9 o10).set 4 (cI 1 241 (updI (o1.2.1 0) i v)) = shC o0 (sA o1 0 i v) o2 o3 o4 o5 o6 o7 o8 o9 o10 := rfl
theorem shC_5_s {o0 o1 o2 o3 o4 o5 o6 o7 o8 o9 o10 : Ob} {i v : Int} : (shC o0 o1 o2 o3 o4 o5 o6 o7 o8 o9 o10).set 5 (cI 0 241 (updI (o1.2.1 1) i v)) = shC o0 (sA o1 1 i v) o2 o3 o4 o5 o6 o7 o8 o9 o10 := rfl
theorem shC_6_s {o0 o1 o2 o3 o4 o5 o6 o7 o8 o9 o10 : Ob} {i : Int} {v : Nat} : (shC o0 o1 o2 o3 o4 o5 o6 o7 o8 o9 o10).set 6 (cL 241 (updN (o1.2.2.2 0) i v)) = shC o0 (sL o1 0 i v) o2 o3 o4 o5 o6 o7 o8 o9 o10 := rfl
theorem shC_7_1 {o0 o1 o2 o3 o4 o5 o6 o7 o8 o9 o10 : Ob} {v : Int} : (shC o0 o1 o2 o3 o4 o5 o6 o7 o8 o9 o10).set 7 (cO 3 ([vR 8, vI (o2.1 0), vI (o2.1 1), vI (o2.1 2)].set 1 (vI v))) = shC o0 o1 (sI o2 0 v) o3 o4 o5 o6 o7 o8 o9 o10 := rfl
theorem shC_7_2 {o0 o1 o2 o3 o4 o5 o6 o7 o8 o9 o10 : Ob} {v : Int} : (shC o0 o1 o2 o3 o4 o5 o6 o7 o8 o9 o10).set 7 (cO 3 ([vR 8, vI (o2.1 0), vI (o2.1 1), vI (o2.1 2)].set 2 (vI v))) = shC o0 o1 (sI o2 1 v) o3 o4 o5 o6 o7 o8 o9 o10 := rfl
theorem shC_7_3 {o0 o1 o2 o3 o4 o5 o6 o7 o8 o9 o10 : Ob} {v : Int} : (shC o0 o1 o2 o3 o4 o5 o6 o7 o8 o9 o10).set 7 (cO 3 ([vR 8, vI (o2.1 0), vI (o2.1 1), vI (o2.1 2)].set 3 (vI v))) = shC o0 o1 (sI o2 2 v) o3 o4 o5 o6 o7 o8 o9 o10 := rfl
theorem shC_8_s {o0 o1 o2 o3 o4 o5 o6 o7 o8 o9 o10 : Ob} {i : Int} {v : Nat} : (shC o0 o1 o2 o3 o4 o5 o6 o7 o8 o9 o10).set 8 (cL 32 (updN (o2.2.2.2 0) i v)) = shC o0 o1 (sL o2 0 i v) o3 o4 o5 o6 o7 o8 o9 o10 := rfl
theorem shC_9_3 {o0 o1 o2 o3 o4 o5 o6 o7 o8 o9 o10 : Ob} {v : Int} : (shC o0 o1 o2 o3 o4 o5 o6 o7 o8 o9 o10).set 9 (cO 4 ([vR 10, vR 11, vR 12, vI (o3.1 0), vI (o3.1 1)].set 3 (vI v))) = shC o0 o1 o2 (sI o3 0 v) o4 o5 o6 o7 o8 o9 o10 := rfl
theorem shC_9_4 {o0 o1 o2 o3 o4 o5 o6 o7 o8 o9 o10 : Ob} {v : Int} : (shC o0 o1 o2 o3 o4 o5 o6 o7 o8 o9 o10).set 9 (cO 4 ([vR 10, vR 11, vR 12, vI (o3.1 0), vI (o3.1 1)].set 4 (vI v))) = shC o0 o1 o2 (sI o3 1 v) o4 o5 o6 o7 o8 o9 o10 := rfl
theorem shC_10_s {o0 o1 o2 o3 o4 o5 o6 o7 o8 o9 o10 : Ob} {i v : Int} : (shC o0 o1 o2 o3 o4 o5 o6 o7 o8 o9 o10).set 10 (cI 0 960 (updI (o3.2.1 0) i v)) = shC o0 o1 o2 (sA o3 0 i v) o4 o5 o6 o7 o8 o9 o10 := rfl
theorem shC_11_s {o0 o1 o2 o3 o4 o5 o6 o7 o8 o9 o10 : Ob} {i v : Int} : (shC o0 o1 o2 o3 o4 o5 o6 o7 o8 o9 o10).set 11 (cI 0 960 (updI (o3.2.1 1) i v)) = shC o0 o1 o2 (sA o3 1 i v) o4 o5 o6 o7 o8 o9 o10 := rfl
theorem shC_12_s {o0 o1 o2 o3 o4 o5 o6 o7 o8 o9 o10 : Ob} {i v : Int} : (shC o0 o1 o2 o3 o4 o5 o6 o7 o8 o9 o10).set 12 (cI 0 24 (updI (o3.2.1 2) i v)) = shC o0 o1 o2 (sA o3 2 i v) o4 o5 o6 o7 o8 o9 o10 := rfl
theorem shC_13_3 {o0 o1 o2 o3 o4 o5 o6 o7 o8 o9 o10 : Ob} {v : Int} : (shC o0 o1 o2 o3 o4 o5 o6 o7 o8 o9 o10).set 13 (cO 4 ([vR 14, vR 15, vR 16, vI (o4.1 0), vI (o4.1 1)].set 3 (vI v))) = shC o0 o1 o2 o3 (sI o4 0 v) o5 o6 o7 o8 o9 o10 := rfl
theorem shC_13_4 {o0 o1 o2 o3 o4 o5 o6 o7 o8 o9 o10 : Ob} {v : Int} : (shC o0 o1 o2 o3 o4 o5 o6 o7 o8 o9 o10).set 13 (cO 4 ([vR 14, vR 15, vR 16, vI (o4.1 0), vI (o4.1 1)].set 4 (vI v))) = shC o0 o1 o2 o3 (sI o4 1 v) o5 o6 o7 o8 o9 o10 := rfl
theorem shC_14_s {o0 o1 o2 o3 o4 o5 o6 o7 o8 o9 o10 : Ob} {i v : Int} : (shC o0 o1 o2 o3 o4 o5 o6 o7 o8 o9 o10).set 14 (cI 0 240 (updI (o4.2.1 0) i v)) = shC o0 o1 o2 o3 (sA o4 0 i v) o5 o6 o7 o8 o9 o10 := rfl
theorem shC_15_s {o0 o1 o2 o3 o4 o5 o6 o7 o8 o9 o10 : Ob} {i v : Int} : (shC o0 o1 o2 o3 o4 o5 o6 o7 o8 o9 o10).set 15 (cI 0 240 (updI (o4.2.1 1) i v)) = shC o0 o1 o2 o3 (sA o4 1 i v) o5 o6 o7 o8 o9 o10 := rfl
theorem shC_16_s {o0 o1 o2 o3 o4 o5 o6 o7 o8 o9 o10 : Ob} {i v : Int} : (shC o0 o1 o2 o3 o4 o5 o6 o7 o8 o9 o10).set 16 (cI 0 24 (updI (o4.2.1 2) i v)) = shC o0 o1 o2 o3 (sA o4 2 i v) o5 o6 o7 o8 o9 o10 := rfl
theorem shC_17_4 {o0 o1 o2 o3 o4 o5 o6 o7 o8 o9 o10 : Ob} {v : Int} : (shC o0 o1 o2 o3 o4 o5 o6 o7 o8 o9 o10).set 17 (cO 5 ([vR 7, vR 3, vR 13, vR 18, vI (o5.1 0), vI (o5.1 1), vI (o5.1 2), vI (o5.1 3), vI (o5.1 4), vI (o5.1 5)].set 4 (vI v))) = shC o0 o1 o2 o3 o4 (sI o5 0 v) o6 o7 o8 o9 o10 := rfl
theorem shC_17_5 {o0 o1 o2 o3 o4 o5 o6 o7 o8 o9 o10 : Ob} {v : Int} : (shC o0 o1 o2 o3 o4 o5 o6 o7 o8 o9 o10).set 17 (cO 5 ([vR 7, vR 3, vR 13, vR 18, vI (o5.1 0), vI (o5.1 1), vI (o5.1 2), vI (o5.1 3), vI (o5.1 4), vI (o5.1 5)].set 5 (vI v))) = shC o0 o1 o2 o3 o4 (sI o5 1 v) o6 o7 o8 o9 o10 := rfl
theorem shC_17_6 {o0 o1 o2 o3 o4 o5 o6 o7 o8 o9 o10 : Ob} {v : Int} : (shC o0 o1 o2 o3 o4 o5 o6 o7 o8 o9 o10).set 17 (cO 5 ([vR 7, vR 3, vR 13, vR 18, vI (o5.1 0), vI (o5.1 1), vI (o5.1 2), vI (o5.1 3), vI (o5.1 4), vI (o5.1 5)].set 6 (vI v))) = shC o0 o1 o2 o3 o4 (sI o5 2 v) o6 o7 o8 o9 o10 := rfl
theorem shC_17_7 {o0 o1 o2 o3 o4 o5 o6 o7 o8 o9 o10 : Ob} {v : Int} : (shC o0 o1 o2 o3 o4 o5 o6 o7 o8 o9 o10).set 17 (cO 5 ([vR 7, vR 3, vR 13, vR 18, vI (o5.1 0), vI (o5.1 1), vI (o5.1 2), vI (o5.1 3), vI (o5.1 4), vI (o5.1 5)].set 7 (vI v))) = shC o0 o1 o2 o3 o4 (sI o5 3 v) o6 o7 o8 o9 o10 := rfl
theorem shC_17_8 {o0 o1 o2 o3 o4 o5 o6 o7 o8 o9 o10 : Ob} {v : Int} : (shC o0 o1 o2 o3 o4 o5 o6 o7 o8 o9 o10).set 17 (cO 5 ([vR 7, vR 3, vR 13, vR 18, vI (o5.1 0), vI (o5.1 1), vI (o5.1 2), vI (o5.1 3), vI (o5.1 4), vI (o5.1 5)].set 8 (vI v))) = shC o0 o1 o2 o3 o4 (sI o5 4 v) o6 o7 o8 o9 o10 := rfl
theorem shC_17_9 {o0 o1 o2 o3 o4 o5 o6 o7 o8 o9 o10 : Ob} {v : Int} : (shC o0 o1 o2 o3 o4 o5 o6 o7 o8 o9 o10).set 17 (cO 5 ([vR 7, vR 3, vR 13, vR 18, vI (o5.1 0), vI (o5.1 1), vI (o5.1 2), vI (o5.1 3), vI (o5.1 4), vI (o5.1 5)].set 9 (vI v))) = shC o0 o1 o2 o3 o4 (sI o5 5 v) o6 o7 o8 o9 o10 := rfl
theorem shC_18_s {o0 o1 o2 o3 o4 o5 o6 o7 o8 o9 o10 : Ob} {i : Int} {v : Nat} : (shC o0 o1 o2 o3 o4 o5 o6 o7 o8 o9 o10).set 18 (cL 8 (updN (o5.2.2.2 0) i v)) = shC o0 o1 o2 o3 o4 (sL o5 0 i v) o6 o7 o8 o9 o10 := rfl
theorem shC_19_7 {o0 o1 o2 o3 o4 o5 o6 o7 o8 o9 o10 : Ob} {v : Int} : (shC o0 o1 o2 o3 o4 o5 o6 o7 o8 o9 o10).set 19 (cO 6 ([vR 20, vR 21, vR 22, vR 23, vR 24, vR 25, vR 26, vI (o6.1 0), vI (o6.1 1), vI (o6.1 2), vI (o6.1 3)].set 7 (vI v))) = shC o0 o1 o2 o3 o4 o5 (sI o6 0 v) o7 o8 o9 o10 := rfl
theorem shC_19_8 {o0 o1 o2 o3 o4 o5 o6 o7 o8 o9 o10 : Ob} {v : Int} : (shC o0 o1 o2 o3 o4 o5 o6 o7 o8 o9 o10).set 19 (cO 6 ([vR 20, vR 21, vR 22, vR 23, vR 24, vR 25, vR 26, vI (o6.1 0), vI (o6.1 1), vI (o6.1 2), vI (o6.1 3)].set 8 (vI v))) = shC o0 o1 o2 o3 o4 o5 (sI o6 1 v) o7 o8 o9 o10 := rfl
theorem shC_19_9 {o0 o1 o2 o3 o4 o5 o6 o7 o8 o9 o10 : Ob} {v : Int} : (shC o0 o1 o2 o3 o4 o5 o6 o7 o8 o9 o10).set 19 (cO 6 ([vR 20, vR 21, vR 22, vR 23, vR 24, vR 25, vR 26, vI (o6.1 0), vI (o6.1 1), vI (o6.1 2), vI (o6.1 3)].set 9 (vI v))) = shC o0 o1 o2 o3 o4 o5 (sI o6 2 v) o7 o8 o9 o10 := rfl
theorem shC_19_10 {o0 o1 o2 o3 o4 o5 o6 o7 o8 o9 o10 : Ob} {v : Int} : (shC o0 o1 o2 o3 o4 o5 o6 o7 o8 o9 o10).set 19 (cO 6 ([vR 20, vR 21, vR 22, vR 23, vR 24, vR 25, vR 26, vI (o6.1 0), vI (o6.1 1), vI (o6.1 2), vI (o6.1 3)].set 10 (vI v))) = shC o0 o1 o2 o3 o4 o5 (sI o6 3 v) o7 o8 o9 o10 := rfl
theorem shC_20_s {o0 o1 o2 o3 o4 o5 o6 o7 o8 o9 o10 : Ob} {i v : Int} : (shC o0 o1 o2 o3 o4 o5 o6 o7 o8 o9 o10).set 20 (cI 0 2440 (updI (o6.2.1 0) i v)) = shC o0 o1 o2 o3 o4 o5 (sA o6 0 i v) o7 o8 o9 o10 := rfl
theorem shC_21_s {o0 o1 o2 o3 o4 o5 o6 o7 o8 o9 o10 : Ob} {i v : Int} : (shC o0 o1 o2 o3 o4 o5 o6 o7 o8 o9 o10).set 21 (cI 0 2440 (updI (o6.2.1 1) i v)) = shC o0 o1 o2 o3 o4 o5 (sA o6 1 i v) o7 o8 o9 o10 := rfl
theorem shC_22_s {o0 o1 o2 o3 o4 o5 o6 o7 o8 o9 o10 : Ob} {i v : Int} : (shC o0 o1 o2 o3 o4 o5 o6 o7 o8 o9 o10).set 22 (cI 0 2440 (updI (o6.2.1 2) i v)) = shC o0 o1 o2 o3 o4 o5 (sA o6 2 i v) o7 o8 o9 o10 := rfl
theorem shC_23_s {o0 o1 o2 o3 o4 o5 o6 o7 o8 o9 o10 : Ob} {i v : Int} : (shC o0 o1 o2 o3 o4 o5 o6 o7 o8 o9 o10).set 23 (cI 0 2440 (updI (o6.2.1 3) i v)) = shC o0 o1 o2 o3 o4 o5 (sA o6 3 i v) o7 o8 o9 o10 := rfl
theorem shC_24_s {o0 o1 o2 o3 o4 o5 o6 o7 o8 o9 o10 : Ob} {i v : Int} : (shC o0 o1 o2 o3 o4 o5 o6 o7 o8 o9 o10).set 24 (cI 0 2440 (updI (o6.2.1 4) i v)) = shC o0 o1 o2 o3 o4 o5 (sA o6 4 i v) o7 o8 o9 o10 := rfl
theorem shC_25_s {o0 o1 o2 o3 o4 o5 o6 o7 o8 o9 o10 : Ob} {i v : Int} : (shC o0 o1 o2 o3 o4 o5 o6 o7 o8 o9 o10).set 25 (cI 0 512 (updI (o6.2.1 5) i v)) = shC o0 o1 o2 o3 o4 o5 (sA o6 5 i v) o7 o8 o9 o10 := rfl
theorem shC_26_s {o0 o1 o2 o3 o4 o5 o6 o7 o8 o9 o10 : Ob} {i v : Int} : (shC o0 o1 o2 o3 o4 o5 o6 o7 o8 o9 o10).set 26 (cI 0 8 (updI (o6.2.1 6) i v)) = shC o0 o1 o2 o3 o4 o5 (sA o6 6 i v) o7 o8 o9 o10 := rfl
theorem shC_27_3 {o0 o1 o2 o3 o4 o5 o6 o7 o8 o9 o10 : Ob} {v : Int} : (shC o0 o1 o2 o3 o4 o5 o6 o7 o8 o9 o10).set 27 (cO 7 ([vR 28, vR 29, vR 30, vI (o7.1 0), vI (o7.1 1)].set 3 (vI v))) = shC o0 o1 o2 o3 o4 o5 o6 (sI o7 0 v) o8 o9 o10 := rfl
theorem shC_27_4 {o0 o1 o2 o3 o4 o5 o6 o7 o8 o9 o10 : Ob} {v : Int} : (shC o0 o1 o2 o3 o4 o5 o6 o7 o8 o9 o10).set 27 (cO 7 ([vR 28, vR 29, vR 30, vI (o7.1 0), vI (o7.1 1)].set 4 (vI v))) = shC o0 o1 o2 o3 o4 o5 o6 (sI o7 1 v) o8 o9 o10 := rfl
theorem shC_28_s {o0 o1 o2 o3 o4 o5 o6 o7 o8 o9 o10 : Ob} {i v : Int} : (shC o0 o1 o2 o3 o4 o5 o6 o7 o8 o9 o10).set 28 (cI 0 488 (updI (o7.2.1 0) i v)) = shC o0 o1 o2 o3 o4 o5 o6 (sA o7 0 i v) o8 o9 o10 := rfl
theorem shC_29_s {o0 o1 o2 o3 o4 o5 o6 o7 o8 o9 o10 : Ob} {i v : Int} : (shC o0 o1 o2 o3 o4 o5 o6 o7 o8 o9 o10).set 29 (cI 0 488 (updI (o7.2.1 1) i v)) = shC o0 o1 o2 o3 o4 o5 o6 (sA o7 1 i v) o8 o9 o10 := rfl
theorem shC_30_s {o0 o1 o2 o3 o4 o5 o6 o7 o8 o9 o10 : Ob} {i v : Int} : (shC o0 o1 o2 o3 o4 o5 o6 o7 o8 o9 o10).set 30 (cI 0 488 (updI (o7.2.1 2) i v)) = shC o0 o1 o2 o3 o4 o5 o6 (sA o7 2 i v) o8 o9 o10 := rfl
theorem shC_31_6 {o0 o1 o2 o3 o4 o5 o6 o7 o8 o9 o10 : Ob} {v : Int} : (shC o0 o1 o2 o3 o4 o5 o6 o7 o8 o9 o10).set 31 (cO 8 ([vR 32, vR 33, vR 34, vR 35, vR 36, vR 37, vI (o8.1 0)].set 6 (vI v))) = shC o0 o1 o2 o3 o4 o5 o6 o7 (sI o8 0 v) o9 o10 := rfl
theorem shC_32_s {o0 o1 o2 o3 o4 o5 o6 o7 o8 o9 o10 : Ob} {i v : Int} : (shC o0 o1 o2 o3 o4 o5 o6 o7 o8 o9 o10).set 32 (cI 0 60 (updI (o8.2.1 0) i v)) = shC o0 o1 o2 o3 o4 o5 o6 o7 (sA o8 0 i v) o9 o10 := rfl
theorem shC_33_s {o0 o1 o2 o3 o4 o5 o6 o7 o8 o9 o10 : Ob} {i v : Int} : (shC o0 o1 o2 o3 o4 o5 o6 o7 o8 o9 o10).set 33 (cI 0 60 (updI (o8.2.1 1) i v)) = shC o0 o1 o2 o3 o4 o5 o6 o7 (sA o8 1 i v) o9 o10 := rfl
theorem shC_34_s {o0 o1 o2 o3 o4 o5 o6 o7 o8 o9 o10 : Ob} {i v : Int} : (shC o0 o1 o2 o3 o4 o5 o6 o7 o8 o9 o10).set 34 (cI 0 60 (updI (o8.2.1 2) i v)) = shC o0 o1 o2 o3 o4 o5 o6 o7 (sA o8 2 i v) o9 o10 := rfl
theorem shC_35_s {o0 o1 o2 o3 o4 o5 o6 o7 o8 o9 o10 : Ob} {i v : Int} : (shC o0 o1 o2 o3 o4 o5 o6 o7 o8 o9 o10).set 35 (cI 0 60 (updI (o8.2.1 3) i v)) = shC o0 o1 o2 o3 o4 o5 o6 o7 (sA o8 3 i v) o9 o10 := rfl
theorem shC_36_s {o0 o1 o2 o3 o4 o5 o6 o7 o8 o9 o10 : Ob} {i v : Int} : (shC o0 o1 o2 o3 o4 o5 o6 o7 o8 o9 o10).set 36 (cI 0 60 (updI (o8.2.1 4) i v)) = shC o0 o1 o2 o3 o4 o5 o6 o7 (sA o8 4 i v) o9 o10 := rfl
theorem shC_37_s {o0 o1 o2 o3 o4 o5 o6 o7 o8 o9 o10 : Ob} {i v : Int} : (shC o0 o1 o2 o3 o4 o5 o6 o7 o8 o9 o10).set 37 (cI 0 60 (updI (o8.2.1 5) i v)) = shC o0 o1 o2 o3 o4 o5 o6 o7 (sA o8 5 i v) o9 o10 := rfl
theorem shC_38_7 {o0 o1 o2 o3 o4 o5 o6 o7 o8 o9 o10 : Ob} {v : Int} : (shC o0 o1 o2 o3 o4 o5 o6 o7 o8 o9 o10).set 38 (cO 9 ([vR 9, vR 7, vR 19, vR 27, vR 31, vR 40, vR 39, vI (o9.1 0), vI (o9.1 1), vI (o9.1 2), vI (o9.1 3), vI (o9.1 4), vI (o9.1 5), vI (o9.1 6)].set 7 (vI v))) = shC o0 o1 o2 o3 o4 o5 o6 o7 o8 (sI o9 0 v) o10 := rfl
theorem shC_38_8 {o0 o1 o2 o3 o4 o5 o6 o7 o8 o9 o10 : Ob} {v : Int} : (shC o0 o1 o2 o3 o4 o5 o6 o7 o8 o9 o10).set 38 (cO 9 ([vR 9, vR 7, vR 19, vR 27, vR 31, vR 40, vR 39, vI (o9.1 0), vI (o9.1 1), vI (o9.1 2), vI (o9.1 3), vI (o9.1 4), vI (o9.1 5), vI (o9.1 6)].set 8 (vI v))) = shC o0 o1 o2 o3 o4 o5 o6 o7 o8 (sI o9 1 v) o10 := rfl
theorem shC_38_9 {o0 o1 o2 o3 o4 o5 o6 o7 o8 o9 o10 : Ob} {v : Int} : (shC o0 o1 o2 o3 o4 o5 o6 o7 o8 o9 o10).set 38 (cO 9 ([vR 9, vR 7, vR 19, vR 27, vR 31, vR 40, vR 39, vI (o9.1 0), vI (o9.1 1), vI (o9.1 2), vI (o9.1 3), vI (o9.1 4), vI (o9.1 5), vI (o9.1 6)].set 9 (vI v))) = shC o0 o1 o2 o3 o4 o5 o6 o7 o8 (sI o9 2 v) o10 := rfl
theorem shC_38_10 {o0 o1 o2 o3 o4 o5 o6 o7 o8 o9 o10 : Ob} {v : Int} : (shC o0 o1 o2 o3 o4 o5 o6 o7 o8 o9 o10).set 38 (cO 9 ([vR 9, vR 7, vR 19, vR 27, vR 31, vR 40, vR 39, vI (o9.1 0), vI (o9.1 1), vI (o9.1 2), vI (o9.1 3), vI (o9.1 4), vI (o9.1 5), vI (o9.1 6)].set 10 (vI v))) = shC o0 o1 o2 o3 o4 o5 o6 o7 o8 (sI o9 3 v) o10 := rfl
theorem shC_38_11 {o0 o1 o2 o3 o4 o5 o6 o7 o8 o9 o10 : Ob} {v : Int} : (shC o0 o1 o2 o3 o4 o5 o6 o7 o8 o9 o10).set 38 (cO 9 ([vR 9, vR 7, vR 19, vR 27, vR 31, vR 40, vR 39, vI (o9.1 0), vI (o9.1 1), vI (o9.1 2), vI (o9.1 3), vI (o9.1 4), vI (o9.1 5), vI (o9.1 6)].set 11 (vI v))) = shC o0 o1 o2 o3 o4 o5 o6 o7 o8 (sI o9 4 v) o10 := rfl
theorem shC_38_12 {o0 o1 o2 o3 o4 o5 o6 o7 o8 o9 o10 : Ob} {v : Int} : (shC o0 o1 o2 o3 o4 o5 o6 o7 o8 o9 o10).set 38 (cO 9 ([vR 9, vR 7, vR 19, vR 27, vR 31, vR 40, vR 39, vI (o9.1 0), vI (o9.1 1), vI (o9.1 2), vI (o9.1 3), vI (o9.1 4), vI (o9.1 5), vI (o9.1 6)].set 12 (vI v))) = shC o0 o1 o2 o3 o4 o5 o6 o7 o8 (sI o9 5 v) o10 := rfl
theorem shC_38_13 {o0 o1 o2 o3 o4 o5 o6 o7 o8 o9 o10 : Ob} {v : Int} : (shC o0 o1 o2 o3 o4 o5 o6 o7 o8 o9 o10).set 38 (cO 9 ([vR 9, vR 7, vR 19, vR 27, vR 31, vR 40, vR 39, vI (o9.1 0), vI (o9.1 1), vI (o9.1 2), vI (o9.1 3), vI (o9.1 4), vI (o9.1 5), vI (o9.1 6)].set 13 (vI v))) = shC o0 o1 o2 o3 o4 o5 o6 o7 o8 (sI o9 6 v) o10 := rfl
theorem shC_39_s {o0 o1 o2 o3 o4 o5 o6 o7 o8 o9 o10 : Ob} {i v : Int} : (shC o0 o1 o2 o3 o4 o5 o6 o7 o8 o9 o10).set 39 (cI 0 8 (updI (o9.2.1 0) i v)) = shC o0 o1 o2 o3 o4 o5 o6 o7 o8 (sA o9 0 i v) o10 := rfl
theorem shC_40_6 {o0 o1 o2 o3 o4 o5 o6 o7 o8 o9 o10 : Ob} {v : Int} : (shC o0 o1 o2 o3 o4 o5 o6 o7 o8 o9 o10).set 40 (cO 10 ([vR 19, vR 7, vR 41, vR 42, vR 43, vR 44, vI (o10.1 0), vI (o10.1 1), vI (o10.1 2), vI (o10.1 3)].set 6 (vI v))) = shC o0 o1 o2 o3 o4 o5 o6 o7 o8 o9 (sI o10 0 v) := rfl
theorem shC_40_7 {o0 o1 o2 o3 o4 o5 o6 o7 o8 o9 o10 : Ob} {v : Int} : (shC o0 o1 o2 o3 o4 o5 o6 o7 o8 o9 o10).set 40 (cO 10 ([vR 19, vR 7, vR 41, vR 42, vR 43, vR 44, vI (o10.1 0), vI (o10.1 1), vI (o10.1 2), vI (o10.1 3)].set 7 (vI v))) = shC o0 o1 o2 o3 o4 o5 o6 o7 o8 o9 (sI o10 1 v) := rfl
theorem shC_40_8 {o0 o1 o2 o3 o4 o5 o6 o7 o8 o9 o10 : Ob} {v : Int} : (shC o0 o1 o2 o3 o4 o5 o6 o7 o8 o9 o10).set 40 (cO 10 ([vR 19, vR 7, vR 41, vR 42, vR 43, vR 44, vI (o10.1 0), vI (o10.1 1), vI (o10.1 2), vI (o10.1 3)].set 8 (vI v))) = shC o0 o1 o2 o3 o4 o5 o6 o7 o8 o9 (sI o10 2 v) := rfl
theorem shC_40_9 {o0 o1 o2 o3 o4 o5 o6 o7 o8 o9 o10 : Ob} {v : Int} : (shC o0 o1 o2 o3 o4 o5 o6 o7 o8 o9 o10).set 40 (cO 10 ([vR 19, vR 7, vR 41, vR 42, vR 43, vR 44, vI (o10.1 0), vI (o10.1 1), vI (o10.1 2), vI (o10.1 3)].set 9 (vI v))) = shC o0 o1 o2 o3 o4 o5 o6 o7 o8 o9 (sI o10 3 v) := rfl
theorem shC_41_s {o0 o1 o2 o3 o4 o5 o6 o7 o8 o9 o10 : Ob} {i v : Int} : (shC o0 o1 o2 o3 o4 o5 o6 o7 o8 o9 o10).set 41 (cI 1 1200 (updI (o10.2.1 0) i v)) = shC o0 o1 o2 o3 o4 o5 o6 o7 o8 o9 (sA o10 0 i v) := rfl
theorem shC_42_s {o0 o1 o2 o3 o4 o5 o6 o7 o8 o9 o10 : Ob} {i v : Int} : (shC o0 o1 o2 o3 o4 o5 o6 o7 o8 o9 o10).set 42 (cI 0 8 (updI (o10.2.1 1) i v)) = shC o0 o1 o2 o3 o4 o5 o6 o7 o8 o9 (sA o10 1 i v) := rfl
theorem shC_43_s {o0 o1 o2 o3 o4 o5 o6 o7 o8 o9 o10 : Ob} {i v : Int} : (shC o0 o1 o2 o3 o4 o5 o6 o7 o8 o9 o10).set 43 (cI 0 120 (updI (o10.2.1 2) i v)) = shC o0 o1 o2 o3 o4 o5 o6 o7 o8 o9 (sA o10 2 i v) := rfl
theorem shC_44_s {o0 o1 o2 o3 o4 o5 o6 o7 o8 o9 o10 : Ob} {i v : Int} : (shC o0 o1 o2 o3 o4 o5 o6 o7 o8 o9 o10).set 44 (cI 0 512 (updI (o10.2.1 3) i v)) = shC o0 o1 o2 o3 o4 o5 o6 o7 o8 o9 (sA o10 3 i v) := rfl
def shM (o0 : Ob) : List AC := [cO 11 [vR 1, vI (o0.1 0), vI (o0.1 1), vI (o0.1 2), vI (o0.1 3), vL (o0.2.2.1 0), vR 2, vR 3, vI (o0.1 4), vI (o0.1 5), vR 4, vR 5, vR 6, vI (o0.1 6), vR 7, vR 8, vR 9, vI (o0.1 7), vI (o0.1 8), vR 10, vR 11, vR 12, vI (o0.1 9), vR 13, vR 14, vI (o0.1 10), vR 15, vR 16, vR 17, vI (o0.1 11), vR 18, vI (o0.1 12), vR 19, vI (o0.1 13), vI (o0.1 14), vI (o0.1 15), vI (o0.1 16), vR 20, vR 21, vI (o0.1 17), vR 22, vR 23, vI (o0.1 18), vR 24, vR 25, vR 26, vR 27, vR 28, vI (o0.1 19), vI (o0.1 20), vR 29, vR 30, vI (o0.1 21), vR 31, vI (o0.1 22)],
  cI 0 240 (o0.2.1 0),
  cL 500 (o0.2.2.2 0),
  cI 0 500 (o0.2.1 1),
  cI 0 242 (o0.2.1 2),
  cI 0 242 (o0.2.1 3),
  cI 0 242 (o0.2.1 4),
  cI 0 242 (o0.2.1 5),
  cL 242 (o0.2.2.2 1),
  cI 0 242 (o0.2.1 6),
  cI 0 16 (o0.2.1 7),
  cI 0 16 (o0.2.1 8),
  cI 0 16 (o0.2.1 9),
  cL 1000 (o0.2.2.2 2),
  cI 0 1000 (o0.2.1 10),
  cI 0 25 (o0.2.1 11),
  cI 0 25 (o0.2.1 12),
  cI 0 200 (o0.2.1 13),
  cL 300 (o0.2.2.2 3),
  cI 0 8 (o0.2.1 14),
  cI 0 61 (o0.2.1 15),
  cI 0 61 (o0.2.1 16),
  cI 0 61 (o0.2.1 17),
  cI 0 61 (o0.2.1 18),
  cI 0 300 (o0.2.1 19),
  cI 0 300 (o0.2.1 20),
  cI 0 300 (o0.2.1 21),
  cI 0 488 (o0.2.1 22),
  cI 0 488 (o0.2.1 23),
  cI 0 8000 (o0.2.1 24),
  cI 0 3000 (o0.2.1 25),
  cI 0 488 (o0.2.1 26)]
theorem shM_0 {o0 : Ob} : (shM o0)[0]? = some (cO 11 [vR 1, vI (o0.1 0), vI (o0.1 1), vI (o0.1 2), vI (o0.1 3), vL (o0.2.2.1 0), vR 2, vR 3, vI (o0.1 4), vI (o0.1 5), vR 4, vR 5, vR 6, vI (o0.1 6), vR 7, vR 8, vR 9, vI (o0.1 7), vI (o0.1 8), vR 10, vR 11, vR 12, vI (o0.1 9), vR 13, vR 14, vI (o0.1 10), vR 15, vR 16, vR 17, vI (o0.1 11), vR 18, vI (o0.1 12), vR 19, vI (o0.1 13), vI (o0.1 14), vI (o0.1 15), vI (o0.1 16), vR 20, vR 21, vI (o0.1 17), vR 22, vR 23, vI (o0.1 18), vR 24, vR 25, vR 26, vR 27, vR 28, vI (o0.1 19), vI (o0.1 20), vR 29, vR 30, vI (o0.1 21), vR 31, vI (o0.1 22)]) := rfl
theorem shM_1 {o0 : Ob} : (shM o0)[1]? = some (cI 0 240 (o0.2.1 0)) := rfl
theorem shM_2 {o0 : Ob} : (shM o0)[2]? = some (cL 500 (o0.2.2.2 0)) := rfl
theorem shM_3 {o0 : Ob} : (shM o0)[3]? = some (cI 0 500 (o0.2.1 1)) := rfl
theorem shM_4 {o0 : Ob} : (shM o0)[4]? = some (cI 0 242 (o0.2.1 2)) := rfl
theorem shM_5 {o0 : Ob} : (shM o0)[5]? = some (cI 0 242 (o0.2.1 3)) := rfl
theorem shM_6 {o0 : Ob} : (shM o0)[6]? = some (cI 0 242 (o0.2.1 4)) := rfl
theorem shM_7 {o0 : Ob} : (shM o0)[7]? = some (cI 0 242 (o0.2.1 5)) := rfl
theorem shM_8 {o0 : Ob} : (shM o0)[8]? = some (cL 242 (o0.2.2.2 1)) := rfl
theorem shM_9 {o0 : Ob} : (shM o0)[9]? = some (cI 0 242 (o0.2.1 6)) := rfl
theorem shM_10 {o0 : Ob} : (shM o0)[10]? = some (cI 0 16 (o0.2.1 7)) := rfl
theorem shM_11 {o0 : Ob} : (shM o0)[11]? = some (cI 0 16 (o0.2.1 8)) := rfl
theorem shM_12 {o0 : Ob} : (shM o0)[12]? = some (cI 0 16 (o0.2.1 9)) := rfl
theorem shM_13 {o0 : Ob} : (shM o0)[13]? = some (cL 1000 (o0.2.2.2 2)) := rfl
theorem shM_14 {o0 : Ob} : (shM o0)[14]? = some (cI 0 1000 (o0.2.1 10)) := rfl
theorem shM_15 {o0 : Ob} : (shM o0)[15]? = some (cI 0 25 (o0.2.1 11)) := rfl
theorem shM_16 {o0 : Ob} : (shM o0)[16]? = some (cI 0 25 (o0.2.1 12)) := rfl
theorem shM_17 {o0 : Ob} : (shM o0)[17]? = some (cI 0 200 (o0.2.1 13)) := rfl
theorem shM_18 {o0 : Ob} : (shM o0)[18]? = some (cL 300 (o0.2.2.2 3)) := rfl
theorem shM_19 {o0 : Ob} : (shM o0)[19]? = some (cI 0 8 (o0.2.1 14)) := rfl
theorem shM_20 {o0 : Ob} : (shM o0)[20]? = some (cI 0 61 (o0.2.1 15)) := rfl
theorem shM_21 {o0 : Ob} : (shM o0)[21]? = some (cI 0 61 (o0.2.1 16)) := rfl
theorem shM_22 {o0 : Ob} : (shM o0)[22]? = some (cI 0 61 (o0.2.1 17)) := rfl
theorem shM_23 {o0 : Ob} : (shM o0)[23]? = some (cI 0 61 (o0.2.1 18)) := rfl
theorem shM_24 {o0 : Ob} : (shM o0)[24]? = some (cI 0 300 (o0.2.1 19)) := rfl
theorem shM_25 {o0 : Ob} : (shM o0)[25]? = some (cI 0 300 (o0.2.1 20)) := rfl
theorem shM_26 {o0 : Ob} : (shM o0)[26]? = some (cI 0 300 (o0.2.1 21)) := rfl
theorem shM_27 {o0 : Ob} : (shM o0)[27]? = some (cI 0 488 (o0.2.1 22)) := rfl
theorem shM_28 {o0 : Ob} : (shM o0)[28]? = some (cI 0 488 (o0.2.1 23)) := rfl
theorem shM_29 {o0 : Ob} : (shM o0)[29]? = some (cI 0 8000 (o0.2.1 24)) := rfl
theorem shM_30 {o0 : Ob} : (shM o0)[30]? = some (cI 0 3000 (o0.2.1 25)) := rfl
theorem shM_31 {o0 : Ob} : (shM o0)[31]? = some (cI 0 488 (o0.2.1 26)) := rfl
theorem shM_0_1 {o0 : Ob} {v : Int} : (shM o0).set 0 (cO 11 ([vR 1, vI (o0.1 0), vI (o0.1 1), vI (o0.1 2), vI (o0.1 3), vL (o0.2.2.1 0), vR 2, vR 3, vI (o0.1 4), vI (o0.1 5), vR 4, vR 5, vR 6, vI (o0.1 6), vR 7, vR 8, vR 9, vI (o0.1 7), vI (o0.1 8), vR 10, vR 11, vR 12, vI (o0.1 9), vR 13, vR 14, vI (o0.1 10), vR 15, vR 16, vR 17, vI (o0.1 11), vR 18, vI (o0.1 12), vR 19, vI (o0.1 13), vI (o0.1 14), vI (o0.1 15), vI (o0.1 16), vR 20, vR 21, vI (o0.1 17), vR 22, vR 23, vI (o0.1 18), vR 24, vR 25, vR 26, vR 27, vR 28, vI (o0.1 19), vI (o0.1 20), vR 29, vR 30, vI (o0.1 21), vR 31, vI (o0.1 22)].set 1 (vI v))) = shM (sI o0 0 v) := rfl
theorem shM_0_2 {o0 : Ob} {v : Int} : (shM o0).set 0 (cO 11 ([vR 1, vI (o0.1 0), vI (o0.1 1), vI (o0.1 2), vI (o0.1 3), vL (o0.2.2.1 0), vR 2, vR 3, vI (o0.1 4), vI (o0.1 5), vR 4, vR 5, vR 6, vI (o0.1 6), vR 7, vR 8, vR 9, vI (o0.1 7), vI (o0.1 8), vR 10, vR 11, vR 12, vI (o0.1 9), vR 13, vR 14, vI (o0.1 10), vR 15, vR 16, vR 17, vI (o0.1 11), vR 18, vI (o0.1 12), vR 19, vI (o0.1 13), vI (o0.1 14), vI (o0.1 15), vI (o0.1 16), vR 20, vR 21, vI (o0.1 17), vR 22, vR 23, vI (o0.1 18), vR 24, vR 25, vR 26, vR 27, vR 28, vI (o0.1 19), vI (o0.1 20), vR 29, vR 30, vI (o0.1 21), vR 31, vI (o0.1 22)].set 2 (vI v))) = shM (sI o0 1 v) := rfl
theorem shM_0_3 {o0 : Ob} {v : Int} : (shM o0).set 0 (cO 11 ([vR 1, vI (o0.1 0), vI (o0.1 1), vI (o0.1 2), vI (o0.1 3), vL (o0.2.2.1 0), vR 2, vR 3, vI (o0.1 4), vI (o0.1 5), vR 4, vR 5, vR 6, vI (o0.1 6), vR 7, vR 8, vR 9, vI (o0.1 7), vI (o0.1 8), vR 10, vR 11, vR 12, vI (o0.1 9), vR 13, vR 14, vI (o0.1 10), vR 15, vR 16, vR 17, vI (o0.1 11), vR 18, vI (o0.1 12), vR 19, vI (o0.1 13), vI (o0.1 14), vI (o0.1 15), vI (o0.1 16), vR 20, vR 21, vI (o0.1 17), vR 22, vR 23, vI (o0.1 18), vR 24, vR 25, vR 26, vR 27, vR 28, vI (o0.1 19), vI (o0.1 20), vR 29, vR 30, vI (o0.1 21), vR 31, vI (o0.1 22)].set 3 (vI v))) = shM (sI o0 2 v) := rfl
theorem shM_0_4 {o0 : Ob} {v : Int} : (shM o0).set 0 (cO 11 ([vR 1, vI (o0.1 0), vI (o0.1 1), vI (o0.1 2), vI (o0.1 3), vL (o0.2.2.1 0), vR 2, vR 3, vI (o0.1 4), vI (o0.1 5), vR 4, vR 5, vR 6, vI (o0.1 6), vR 7, vR 8, vR 9, vI (o0.1 7), vI (o0.1 8), vR 10, vR 11, vR 12, vI (o0.1 9), vR 13, vR 14, vI (o0.1 10), vR 15, vR 16, vR 17, vI (o0.1 11), vR 18, vI (o0.1 12), vR 19, vI (o0.1 13), vI (o0.1 14), vI (o0.1 15), vI (o0.1 16), vR 20, vR 21, vI (o0.1 17), vR 22, vR 23, vI (o0.1 18), vR 24, vR 25, vR 26, vR 27, vR 28, vI (o0.1 19), vI (o0.1 20), vR 29, vR 30, vI (o0.1 21), vR 31, vI (o0.1 22)].set 4 (vI v))) = shM (sI o0 3 v) := rfl
theorem shM_0_5 {o0 : Ob} {v : Nat} : (shM o0).set 0 (cO 11 ([vR 1, vI (o0.1 0), vI (o0.1 1), vI (o0.1 2), vI (o0.1 3), vL (o0.2.2.1 0), vR 2, vR 3, vI (o0.1 4), vI (o0.1 5), vR 4, vR 5, vR 6, vI (o0.1 6), vR 7, vR 8, vR 9, vI (o0.1 7), vI (o0.1 8), vR 10, vR 11, vR 12, vI (o0.1 9), vR 13, vR 14, vI (o0.1 10), vR 15, vR 16, vR 17, vI (o0.1 11), vR 18, vI (o0.1 12), vR 19, vI (o0.1 13), vI (o0.1 14), vI (o0.1 15), vI (o0.1 16), vR 20, vR 21, vI (o0.1 17), vR 22, vR 23, vI (o0.1 18), vR 24, vR 25, vR 26, vR 27, vR 28, vI (o0.1 19), vI (o0.1 20), vR 29, vR 30, vI (o0.1 21), vR 31, vI (o0.1 22)].set 5 (vL v))) = shM (sJ o0 0 v) := rfl
theorem shM_0_8 {o0 : Ob} {v : Int} : (shM o0).set 0 (cO 11 ([vR 1, vI (o0.1 0), vI (o0.1 1), vI (o0.1 2), vI (o0.1 3), vL (o0.2.2.1 0), vR 2, vR 3, vI (o0.1 4), vI (o0.1 5), vR 4, vR 5, vR 6, vI (o0.1 6), vR 7, vR 8, vR 9, vI (o0.1 7), vI (o0.1 8), vR 10, vR 11, vR 12, vI (o0.1 9), vR 13, vR 14, vI (o0.1 10), vR 15, vR 16, vR 17, vI (o0.1 11), vR 18, vI (o0.1 12), vR 19, vI (o0.1 13), vI (o0.1 14), vI (o0.1 15), vI (o0.1 16), vR 20, vR 21, vI (o0.1 17), vR 22, vR 23, vI (o0.1 18), vR 24, vR 25, vR 26, vR 27, vR 28, vI (o0.1 19), vI (o0.1 20), vR 29, vR 30, vI (o0.1 21), vR 31, vI (o0.1 22)].set 8 (vI v))) = shM (sI o0 4 v) := rfl
theorem shM_0_9 {o0 : Ob} {v : Int} : (shM o0).set 0 (cO 11 ([vR 1, vI (o0.1 0), vI (o0.1 1), vI (o0.1 2), vI (o0.1 3), vL (o0.2.2.1 0), vR 2, vR 3, vI (o0.1 4), vI (o0.1 5), vR 4, vR 5, vR 6, vI (o0.1 6), vR 7, vR 8, vR 9, vI (o0.1 7), vI (o0.1 8), vR 10, vR 11, vR 12, vI (o0.1 9), vR 13, vR 14, vI (o0.1 10), vR 15, vR 16, vR 17, vI (o0.1 11), vR 18, vI (o0.1 12), vR 19, vI (o0.1 13), vI (o0.1 14), vI (o0.1 15), vI (o0.1 16), vR 20, vR 21, vI (o0.1 17), vR 22, vR 23, vI (o0.1 18), vR 24, vR 25, vR 26, vR 27, vR 28, vI (o0.1 19), vI (o0.1 20), vR 29, vR 30, vI (o0.1 21), vR 31, vI (o0.1 22)].set 9 (vI v))) = shM (sI o0 5 v) := rfl
theorem shM_0_13 {o0 : Ob} {v : Int} : (shM o0).set 0 (cO 11 ([vR 1, vI (o0.1 0), vI (o0.1 1), vI (o0.1 2), vI (o0.1 3), vL (o0.2.2.1 0), vR 2, vR 3, vI (o0.1 4), vI (o0.1 5), vR 4, vR 5, vR 6, vI (o0.1 6), vR 7, vR 8, vR 9, vI (o0.1 7), vI (o0.1 8), vR 10, vR 11, vR 12, vI (o0.1 9), vR 13, vR 14, vI (o0.1 10), vR 15, vR 16, vR 17, vI (o0.1 11), vR 18, vI (o0.1 12), vR 19, vI (o0.1 13), vI (o0.1 14), vI (o0.1 15), vI (o0.1 16), vR 20, vR 21, vI (o0.1 17), vR 22, vR 23, vI (o0.1 18), vR 24, vR 25, vR 26, vR 27, vR 28, vI (o0.1 19), vI (o0.1 20), vR 29, vR 30, vI (o0.1 21), vR 31, vI (o0.1 22)].set 13 (vI v))) = shM (sI o0 6 v) := rfl
theorem shM_0_17 {o0 : Ob} {v : Int} : (shM o0).set 0 (cO 11 ([vR 1, vI (o0.1 0), vI (o0.1 1), vI (o0.1 2), vI (o0.1 3), vL (o0.2.2.1 0), vR 2, vR 3, vI (o0.1 4), vI (o0.1 5), vR 4, vR 5, vR 6, vI (o0.1 6), vR 7, vR 8, vR 9, vI (o0.1 7), vI (o0.1 8), vR 10, vR 11, vR 12, vI (o0.1 9), vR 13, vR 14, vI (o0.1 10), vR 15, vR 16, vR 17, vI (o0.1 11), vR 18, vI (o0.1 12), vR 19, vI (o0.1 13), vI (o0.1 14), vI (o0.1 15), vI (o0.1 16), vR 20, vR 21, vI (o0.1 17), vR 22, vR 23, vI (o0.1 18), vR 24, vR 25, vR 26, vR 27, vR 28, vI (o0.1 19), vI (o0.1 20), vR 29, vR 30, vI (o0.1 21), vR 31, vI (o0.1 22)].set 17 (vI v))) = shM (sI o0 7 v) := rfl
theorem shM_0_18 {o0 : Ob} {v : Int} : (shM o0).set 0 (cO 11 ([vR 1, vI (o0.1 0), vI (o0.1 1), vI (o0.1 2), vI (o0.1 3), vL (o0.2.2.1 0), vR 2, vR 3, vI (o0.1 4), vI (o0.1 5), vR 4, vR 5, vR 6, vI (o0.1 6), vR 7, vR 8, vR 9, vI (o0.1 7), vI (o0.1 8), vR 10, vR 11, vR 12, vI (o0.1 9), vR 13, vR 14, vI (o0.1 10), vR 15, vR 16, vR 17, vI (o0.1 11), vR 18, vI (o0.1 12), vR 19, vI (o0.1 13), vI (o0.1 14), vI (o0.1 15), vI (o0.1 16), vR 20, vR 21, vI (o0.1 17), vR 22, vR 23, vI (o0.1 18), vR 24, vR 25, vR 26, vR 27, vR 28, vI (o0.1 19), vI (o0.1 20), vR 29, vR 30, vI (o0.1 21), vR 31, vI (o0.1 22)].set 18 (vI v))) = shM (sI o0 8 v) := rfl
theorem shM_0_22 {o0 : Ob} {v : Int} : (shM o0).set 0 (cO 11 ([vR 1, vI (o0.1 0), vI (o0.1 1), vI (o0.1 2), vI (o0.1 3), vL (o0.2.2.1 0), vR 2, vR 3, vI (o0.1 4), vI (o0.1 5), vR 4, vR 5, vR 6, vI (o0.1 6), vR 7, vR 8, vR 9, vI (o0.1 7), vI (o0.1 8), vR 10, vR 11, vR 12, vI (o0.1 9), vR 13, vR 14, vI (o0.1 10), vR 15, vR 16, vR 17, vI (o0.1 11), vR 18, vI (o0.1 12), vR 19, vI (o0.1 13), vI (o0.1 14), vI (o0.1 15), vI (o0.1 16), vR 20, vR 21, vI (o0.1 17), vR 22, vR 23, vI (o0.1 18), vR 24, vR 25, vR 26, vR 27, vR 28, vI (o0.1 19), vI (o0.1 20), vR 29, vR 30, vI (o0.1 21), vR 31, vI (o0.1 22)].set 22 (vI v))) = shM (sI o0 9 v) := rfl
theorem shM_0_25 {o0 : Ob} {v : Int} : (shM o0).set 0 (cO 11 ([vR 1, vI (o0.1 0), vI (o0.1 1), vI (o0.1 2), vI (o0.1 3), vL (o0.2.2.1 0), vR 2, vR 3, vI (o0.1 4), vI (o0.1 5), vR 4, vR 5, vR 6, vI (o0.1 6), vR 7, vR 8, vR 9, vI (o0.1 7), vI (o0.1 8), vR 10, vR 11, vR 12, vI (o0.1 9), vR 13, vR 14, vI (o0.1 10), vR 15, vR 16, vR 17, vI (o0.1 11), vR 18, vI (o0.1 12), vR 19, vI (o0.1 13), vI (o0.1 14), vI (o0.1 15), vI (o0.1 16), vR 20, vR 21, vI (o0.1 17), vR 22, vR 23, vI (o0.1 18), vR 24, vR 25, vR 26, vR 27, vR 28, vI (o0.1 19), vI (o0.1 20), vR 29, vR 30, vI (o0.1 21), vR 31, vI (o0.1 22)].set 25 (vI v))) = shM (sI o0 10 v) := rfl
theorem shM_0_29 {o0 : Ob} {v : Int} : (shM o0).set 0 (cO 11 ([vR 1, vI (o0.1 0), vI (o0.1 1), vI (o0.1 2), vI (o0.1 3), vL (o0.2.2.1 0), vR 2, vR 3, vI (o0.1 4), vI (o0.1 5), vR 4, vR 5, vR 6, vI (o0.1 6), vR 7, vR 8, vR 9, vI (o0.1 7), vI (o0.1 8), vR 10, vR 11, vR 12, vI (o0.1 9), vR 13, vR 14, vI (o0.1 10), vR 15, vR 16, vR 17, vI (o0.1 11), vR 18, vI (o0.1 12), vR 19, vI (o0.1 13), vI (o0.1 14), vI (o0.1 15), vI (o0.1 16), vR 20, vR 21, vI (o0.1 17), vR 22, vR 23, vI (o0.1 18), vR 24, vR 25, vR 26, vR 27, vR 28, vI (o0.1 19), vI (o0.1 20), vR 29, vR 30, vI (o0.1 21), vR 31, vI (o0.1 22)].set 29 (vI v))) = shM (sI o0 11 v) := rfl
theorem shM_0_31 {o0 : Ob} {v : Int} : (shM o0).set 0 (cO 11 ([vR 1, vI (o0.1 0), vI (o0.1 1), vI (o0.1 2), vI (o0.1 3), vL (o0.2.2.1 0), vR 2, vR 3, vI (o0.1 4), vI (o0.1 5), vR 4, vR 5, vR 6, vI (o0.1 6), vR 7, vR 8, vR 9, vI (o0.1 7), vI (o0.1 8), vR 10, vR 11, vR 12, vI (o0.1 9), vR 13, vR 14, vI (o0.1 10), vR 15, vR 16, vR 17, vI (o0.1 11), vR 18, vI (o0.1 12), vR 19, vI (o0.1 13), vI (o0.1 14), vI (o0.1 15), vI (o0.1 16), vR 20, vR 21, vI (o0.1 17), vR 22, vR 23, vI (o0.1 18), vR 24, vR 25, vR 26, vR 27, vR 28, vI (o0.1 19), vI (o0.1 20), vR 29, vR 30, vI (o0.1 21), vR 31, vI (o0.1 22)].set 31 (vI v))) = shM (sI o0 12 v) := rfl
theorem shM_0_33 {o0 : Ob} {v : Int} : (shM o0).set 0 (cO 11 ([vR 1, vI (o0.1 0), vI (o0.1 1), vI (o0.1 2), vI (o0.1 3), vL (o0.2.2.1 0), vR 2, vR 3, vI (o0.1 4), vI (o0.1 5), vR 4, vR 5, vR 6, vI (o0.1 6), vR 7, vR 8, vR 9, vI (o0.1 7), vI (o0.1 8), vR 10, vR 11, vR 12, vI (o0.1 9), vR 13, vR 14, vI (o0.1 10), vR 15, vR 16, vR 17, vI (o0.1 11), vR 18, vI (o0.1 12), vR 19, vI (o0.1 13), vI (o0.1 14), vI (o0.1 15), vI (o0.1 16), vR 20, vR 21, vI (o0.1 17), vR 22, vR 23, vI (o0.1 18), vR 24, vR 25, vR 26, vR 27, vR 28, vI (o0.1 19), vI (o0.1 20), vR 29, vR 30, vI (o0.1 21), vR 31, vI (o0.1 22)].set 33 (vI v))) = shM (sI o0 13 v) := rfl
theorem shM_0_34 {o0 : Ob} {v : Int} : (shM o0).set 0 (cO 11 ([vR 1, vI (o0.1 0), vI (o0.1 1), vI (o0.1 2), vI (o0.1 3), vL (o0.2.2.1 0), vR 2, vR 3, vI (o0.1 4), vI (o0.1 5), vR 4, vR 5, vR 6, vI (o0.1 6), vR 7, vR 8, vR 9, vI (o0.1 7), vI (o0.1 8), vR 10, vR 11, vR 12, vI (o0.1 9), vR 13, vR 14, vI (o0.1 10), vR 15, vR 16, vR 17, vI (o0.1 11), vR 18, vI (o0.1 12), vR 19, vI (o0.1 13), vI (o0.1 14), vI (o0.1 15), vI (o0.1 16), vR 20, vR 21, vI (o0.1 17), vR 22, vR 23, vI (o0.1 18), vR 24, vR 25, vR 26, vR 27, vR 28, vI (o0.1 19), vI (o0.1 20), vR 29, vR 30, vI (o0.1 21), vR 31, vI (o0.1 22)].set 34 (vI v))) = shM (sI o0 14 v) := rfl
theorem shM_0_35 {o0 : Ob} {v : Int} : (shM o0).set 0 (cO 11 ([vR 1, vI (o0.1 0), vI (o0.1 1), vI (o0.1 2), vI (o0.1 3), vL (o0.2.2.1 0), vR 2, vR 3, vI (o0.1 4), vI (o0.1 5), vR 4, vR 5, vR 6, vI (o0.1 6), vR 7, vR 8, vR 9, vI (o0.1 7), vI (o0.1 8), vR 10, vR 11, vR 12, vI (o0.1 9), vR 13, vR 14, vI (o0.1 10), vR 15, vR 16, vR 17, vI (o0.1 11), vR 18, vI (o0.1 12), vR 19, vI (o0.1 13), vI (o0.1 14), vI (o0.1 15), vI (o0.1 16), vR 20, vR 21, vI (o0.1 17), vR 22, vR 23, vI (o0.1 18), vR 24, vR 25, vR 26, vR 27, vR 28, vI (o0.1 19), vI (o0.1 20), vR 29, vR 30, vI (o0.1 21), vR 31, vI (o0.1 22)].set 35 (vI v))) = shM (sI o0 15 v) := rfl
theorem shM_0_36 {o0 : Ob} {v : Int} : (shM o0).set 0 (cO 11 ([vR 1, vI (o0.1 0), vI (o0.1 1), vI (o0.1 2), vI (o0.1 3), vL (o0.2.2.1 0), vR 2, vR 3, vI (o0.1 4), vI (o0.1 5), vR 4, vR 5, vR 6, vI (o0.1 6), vR 7, vR 8, vR 9, vI (o0.1 7), vI (o0.1 8), vR 10, vR 11, vR 12, vI (o0.1 9), vR 13, vR 14, vI (o0.1 10), vR 15, vR 16, vR 17, vI (o0.1 11), vR 18, vI (o0.1 12), vR 19, vI (o0.1 13), vI (o0.1 14), vI (o0.1 15), vI (o0.1 16), vR 20, vR 21, vI (o0.1 17), vR 22, vR 23, vI (o0.1 18), vR 24, vR 25, vR 26, vR 27, vR 28, vI (o0.1 19), vI (o0.1 20), vR 29, vR 30, vI (o0.1 21), vR 31, vI (o0.1 22)].set 36 (vI v))) = shM (sI o0 16 v) := rfl
theorem shM_0_39 {o0 : Ob} {v : Int} : (shM o0).set 0 (cO 11 ([vR 1, vI (o0.1 0), vI (o0.1 1), vI (o0.1 2), vI (o0.1 3), vL (o0.2.2.1 0), vR 2, vR 3, vI (o0.1 4), vI (o0.1 5), vR 4, vR 5, vR 6, vI (o0.1 6), vR 7, vR 8, vR 9, vI (o0.1 7), vI (o0.1 8), vR 10, vR 11, vR 12, vI (o0.1 9), vR 13, vR 14, vI (o0.1 10), vR 15, vR 16, vR 17, vI (o0.1 11), vR 18, vI (o0.1 12), vR 19, vI (o0.1 13), vI (o0.1 14), vI (o0.1 15), vI (o0.1 16), vR 20, vR 21, vI (o0.1 17), vR 22, vR 23, vI (o0.1 18), vR 24, vR 25, vR 26, vR 27, vR 28, vI (o0.1 19), vI (o0.1 20), vR 29, vR 30, vI (o0.1 21), vR 31, vI (o0.1 22)].set 39 (vI v))) = shM (sI o0 17 v) := rfl
theorem shM_0_42 {o0 : Ob} {v : Int} : (shM o0).set 0 (cO 11 ([vR 1, vI (o0.1 0), vI (o0.1 1), vI (o0.1 2), vI (o0.1 3), vL (o0.2.2.1 0), vR 2, vR 3, vI (o0.1 4), vI (o0.1 5), vR 4, vR 5, vR 6, vI (o0.1 6), vR 7, vR 8, vR 9, vI (o0.1 7), vI (o0.1 8), vR 10, vR 11, vR 12, vI (o0.1 9), vR 13, vR 14, vI (o0.1 10), vR 15, vR 16, vR 17, vI (o0.1 11), vR 18, vI (o0.1 12), vR 19, vI (o0.1 13), vI (o0.1 14), vI (o0.1 15), vI (o0.1 16), vR 20, vR 21, vI (o0.1 17), vR 22, vR 23, vI (o0.1 18), vR 24, vR 25, vR 26, vR 27, vR 28, vI (o0.1 19), vI (o0.1 20), vR 29, vR 30, vI (o0.1 21), vR 31, vI (o0.1 22)].set 42 (vI v))) = shM (sI o0 18 v) := rfl
theorem shM_0_48 {o0 : Ob} {v : Int} : (shM o0).set 0 (cO 11 ([vR 1, vI (o0.1 0), vI (o0.1 1), vI (o0.1 2), vI (o0.1 3), vL (o0.2.2.1 0), vR 2, vR 3, vI (o0.1 4), vI (o0.1 5), vR 4, vR 5, vR 6, vI (o0.1 6), vR 7, vR 8, vR 9, vI (o0.1 7), vI (o0.1 8), vR 10, vR 11, vR 12, vI (o0.1 9), vR 13, vR 14, vI (o0.1 10), vR 15, vR 16, vR 17, vI (o0.1 11), vR 18, vI (o0.1 12), vR 19, vI (o0.1 13), vI (o0.1 14), vI (o0.1 15), vI (o0.1 16), vR 20, vR 21, vI (o0.1 17), vR 22, vR 23, vI (o0.1 18), vR 24, vR 25, vR 26, vR 27, vR 28, vI (o0.1 19), vI (o0.1 20), vR 29, vR 30, vI (o0.1 21), vR 31, vI (o0.1 22)].set 48 (vI v))) = shM (sI o0 19 v) := rfl
theorem shM_0_49 {o0 : Ob} {v : Int} : (shM o0).set 0 (cO 11 ([vR 1, vI (o0.1 0), vI (o0.1 1), vI (o0.1 2), vI (o0.1 3), vL (o0.2.2.1 0), vR 2, vR 3, vI (o0.1 4), vI (o0.1 5), vR 4, vR 5, vR 6, vI (o0.1 6), vR 7, vR 8, vR 9, vI (o0.1 7), vI (o0.1 8), vR 10, vR 11, vR 12, vI (o0.1 9), vR 13, vR 14, vI (o0.1 10), vR 15, vR 16, vR 17, vI (o0.1 11), vR 18, vI (o0.1 12), vR 19, vI (o0.1 13), vI (o0.1 14), vI (o0.1 15), vI (o0.1 16), vR 20, vR 21, vI (o0.1 17), vR 22, vR 23, vI (o0.1 18), vR 24, vR 25, vR 26, vR 27, vR 28, vI (o0.1 19), vI (o0.1 20), vR 29, vR 30, vI (o0.1 21), vR 31, vI (o0.1 22)].set 49 (vI v))) = shM (sI o0 20 v) := rfl
theorem shM_0_52 {o0 : Ob} {v : Int} : (shM o0).set 0 (cO 11 ([vR 1, vI (o0.1 0), vI (o0.1 1), vI (o0.1 2), vI (o0.1 3), vL (o0.2.2.1 0), vR 2, vR 3, vI (o0.1 4), vI (o0.1 5), vR 4, vR 5, vR 6, vI (o0.1 6), vR 7, vR 8, vR 9, vI (o0.1 7), vI (o0.1 8), vR 10, vR 11, vR 12, vI (o0.1 9), vR 13, vR 14, vI (o0.1 10), vR 15, vR 16, vR 17, vI (o0.1 11), vR 18, vI (o0.1 12), vR 19, vI (o0.1 13), vI (o0.1 14), vI (o0.1 15), vI (o0.1 16), vR 20, vR 21, vI (o0.1 17), vR 22, vR 23, vI (o0.1 18), vR 24, vR 25, vR 26, vR 27, vR 28, vI (o0.1 19), vI (o0.1 20), vR 29, vR 30, vI (o0.1 21), vR 31, vI (o0.1 22)].set 52 (vI v))) = shM (sI o0 21 v) := rfl
theorem shM_0_54 {o0 : Ob} {v : Int} : (shM o0).set 0 (cO 11 ([vR 1, vI (o0.1 0), vI (o0.1 1), vI (o0.1 2), vI (o0.1 3), vL (o0.2.2.1 0), vR 2, vR 3, vI (o0.1 4), vI (o0.1 5), vR 4, vR 5, vR 6, vI (o0.1 6), vR 7, vR 8, vR 9, vI (o0.1 7), vI (o0.1 8), vR 10, vR 11, vR 12, vI (o0.1 9), vR 13, vR 14, vI (o0.1 10), vR 15, vR 16, vR 17, vI (o0.1 11), vR 18, vI (o0.1 12), vR 19, vI (o0.1 13), vI (o0.1 14), vI (o0.1 15), vI (o0.1 16), vR 20, vR 21, vI (o0.1 17), vR 22, vR 23, vI (o0.1 18), vR 24, vR 25, vR 26, vR 27, vR 28, vI (o0.1 19), vI (o0.1 20), vR 29, vR 30, vI (o0.1 21), vR 31, vI (o0.1 22)].set 54 (vI v))) = shM (sI o0 22 v) := rfl
theorem shM_1_s {o0 : Ob} {i v : Int} : (shM o0).set 1 (cI 0 240 (updI (o0.2.1 0) i v)) = shM (sA o0 0 i v) := rfl
theorem shM_2_s {o0 : Ob} {i : Int} {v : Nat} : (shM o0).set 2 (cL 500 (updN (o0.2.2.2 0) i v)) = shM (sL o0 0 i v) := rfl
theorem shM_3_s {o0 : Ob} {i v : Int} : (shM o0).set 3 (cI 0 500 (updI (o0.2.1 1) i v)) = shM (sA o0 1 i v) := rfl
theorem shM_4_s {o0 : Ob} {i v : Int} : (shM o0).set 4 (cI 0 242 (updI (o0.2.1 2) i v)) = shM (sA o0 2 i v) := rfl
theorem shM_5_s {o0 : Ob} {i v : Int} : (shM o0).set 5 (cI 0 242 (updI (o0.2.1 3) i v)) = shM (sA o0 3 i v) := rfl
theorem shM_6_s {o0 : Ob} {i v : Int} : (shM o0).set 6 (cI 0 242 (updI (o0.2.1 4) i v)) = shM (sA o0 4 i v) := rfl
theorem shM_7_s {o0 : Ob} {i v : Int} : (shM o0).set 7 (cI 0 242 (updI (o0.2.1 5) i v)) = shM (sA o0 5 i v) := rfl
theorem shM_8_s {o0 : Ob} {i : Int} {v : Nat} : (shM o0).set 8 (cL 242 (updN (o0.2.2.2 1) i v)) = shM (sL o0 1 i v) := rfl
theorem shM_9_s {o0 : Ob} {i v : Int} : (shM o0).set 9 (cI 0 242 (updI (o0.2.1 6) i v)) = shM (sA o0 6 i v) := rfl
theorem shM_10_s {o0 : Ob} {i v : Int} : (shM o0).set 10 (cI 0 16 (updI (o0.2.1 7) i v)) = shM (sA o0 7 i v) := rfl
theorem shM_11_s {o0 : Ob} {i v : Int} : (shM o0).set 11 (cI 0 16 (updI (o0.2.1 8) i v)) = shM (sA o0 8 i v) := rfl
theorem shM_12_s {o0 : Ob} {i v : Int} : (shM o0).set 12 (cI 0 16 (updI (o0.2.1 9) i v)) = shM (sA o0 9 i v) := rfl
theorem shM_13_s {o0 : Ob} {i : Int} {v : Nat} : (shM o0).set 13 (cL 1000 (updN (o0.2.2.2 2) i v)) = shM (sL o0 2 i v) := rfl
theorem shM_14_s {o0 : Ob} {i v : Int} : (shM o0).set 14 (cI 0 1000 (updI (o0.2.1 10) i v)) = shM (sA o0 10 i v) := rfl
theorem shM_15_s {o0 : Ob} {i v : Int} : (shM o0).set 15 (cI 0 25 (updI (o0.2.1 11) i v)) = shM (sA o0 11 i v) := rfl
theorem shM_16_s {o0 : Ob} {i v : Int} : (shM o0).set 16 (cI 0 25 (updI (o0.2.1 12) i v)) = shM (sA o0 12 i v) := rfl
theorem shM_17_s {o0 : Ob} {i v : Int} : (shM o0).set 17 (cI 0 200 (updI (o0.2.1 13) i v)) = shM (sA o0 13 i v) := rfl
theorem shM_18_s {o0 : Ob} {i : Int} {v : Nat} : (shM o0).set 18 (cL 300 (updN (o0.2.2.2 3) i v)) = shM (sL o0 3 i v) := rfl
theorem shM_19_s {o0 : Ob} {i v : Int} : (shM o0).set 19 (cI 0 8 (updI (o0.2.1 14) i v)) = shM (sA o0 14 i v) := rfl
theorem shM_20_s {o0 : Ob} {i v : Int} : (shM o0).set 20 (cI 0 61 (updI (o0.2.1 15) i v)) = shM (sA o0 15 i v) := rfl
theorem shM_21_s {o0 : Ob} {i v : Int} : (shM o0).set 21 (cI 0 61 (updI (o0.2.1 16) i v)) = shM (sA o0 16 i v) := rfl
theorem shM_22_s {o0 : Ob} {i v : Int} : (shM o0).set 22 (cI 0 61 (updI (o0.2.1 17) i v)) = shM (sA o0 17 i v) := rfl
theorem shM_23_s {o0 : Ob} {i v : Int} : (shM o0).set 23 (cI 0 61 (updI (o0.2.1 18) i v)) = shM (sA o0 18 i v) := rfl
theorem shM_24_s {o0 : Ob} {i v : Int} : (shM o0).set 24 (cI 0 300 (updI (o0.2.1 19) i v)) = shM (sA o0 19 i v) := rfl
theorem shM_25_s {o0 : Ob} {i v : Int} : (shM o0).set 25 (cI 0 300 (updI (o0.2.1 20) i v)) = shM (sA o0 20 i v) := rfl
theorem shM_26_s {o0 : Ob} {i v : Int} : (shM o0).set 26 (cI 0 300 (updI (o0.2.1 21) i v)) = shM (sA o0 21 i v) := rfl
theorem shM_27_s {o0 : Ob} {i v : Int} : (shM o0).set 27 (cI 0 488 (updI (o0.2.1 22) i v)) = shM (sA o0 22 i v) := rfl
theorem shM_28_s {o0 : Ob} {i v : Int} : (shM o0).set 28 (cI 0 488 (updI (o0.2.1 23) i v)) = shM (sA o0 23 i v) := rfl
theorem shM_29_s {o0 : Ob} {i v : Int} : (shM o0).set 29 (cI 0 8000 (updI (o0.2.1 24) i v)) = shM (sA o0 24 i v) := rfl
theorem shM_30_s {o0 : Ob} {i v : Int} : (shM o0).set 30 (cI 0 3000 (updI (o0.2.1 25) i v)) = shM (sA o0 25 i v) := rfl
theorem shM_31_s {o0 : Ob} {i v : Int} : (shM o0).set 31 (cI 0 488 (updI (o0.2.1 26) i v)) = shM (sA o0 26 i v) := rfl
