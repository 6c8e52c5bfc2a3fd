/-! answer: the class's loop over the entries -/
/-- entries whose cells are good: roots in the row, no cut -/
def goodI (E : List Sy) (g : Nat → Nat) (i : It) : Prop := (i.1 = 2 ∧ i.2 < 3000) ∨ (i.1 < 2 ∧ i.2 < E.length ∧ g i.2 < E.length ∧ en E (g i.2) ≠ (-2, 0))
/-- a run that keeps to the class's rows -/
def runC (E : List Sy) (g : Nat → Nat) : Nat → List It → List Nat → List Int → List Int → List Nat → Prop
  | 0, _, _, _, _, _ => False
  | _ + 1, [], N, out, out', N' => out' = out ∧ N' = N
  | n + 1, i :: st, N, out, out', N' => goodI E g i ∧ out.length + 3 ≤ 1203 ∧ (i.1 = 0 → out.length + 3 ≤ 1200) ∧ out.length + (stp E g i N).1.length ≤ 1200 ∧ out.length < 1200 ∧ st.length + (stp E g i N).2.1.length ≤ 512 ∧ st.length + 2 ≤ 512 ∧ (stp E g i N).2.2.length ≤ 100 ∧ runC E g n ((stp E g i N).2.1 ++ st) (stp E g i N).2.2 (out ++ (stp E g i N).1) out' N'
theorem sp_cloop {NL : List Nat} {E : List Sy} {rp dp : Nat → Nat} {chl : List Nat} {nm te wr0 : Ob} {out' : List Int} {N' : List Nat} {K : Ob → Prop} (hn : nmKp nm NL) (hW : WE E) (hO : OkE NL E) (hT : TeS NL E te rp dp chl) (hcl : chl.length + 1 ≤ 2440) (hK : ∀ wr', CWr wr' N' out' [] → wfr wr0 wr' → K wr') : ∀ (n k : Nat) (st : List It) (N : List Nat) (out : List Int) (wr : Ob), runC E rp n st N out out' N' → k + n ≤ 100000 → CWr wr N out st → wfr wr0 wr → Wri_write_13 n (k : Int) nm te wr K := by
  intro n
  induction n with
  | zero => intro k st N out wr h; exact absurd h id
  | succ n ih =>
    intro k st N out wr h hk hc hf
    have hc0 := hc
    obtain ⟨g0, g1, g2, g3, g4, g5⟩ := hc0
    refine ⟨fun z => by omega, fun _ => ⟨fun z => ?_, fun z => ?_⟩⟩
    · cases st with
      | nil =>
        obtain ⟨rfl, rfl⟩ := h
        exact hK wr hc hf
      | cons i st => rw [List.length_cons] at g4; omega
    · cases st with
      | nil => rw [List.length_nil] at g4; omega
      | cons i st =>
        rw [List.length_cons] at g4
        obtain ⟨hg, -, h3, hl, hl1, hs, hs2, hN, hr⟩ := h
        have e1 : wr.1 2 - 1 = (st.length : Int) := by omega
        have e3 : wr.2.1 3 (st.length : Int) = (i.2 : Int) * 4 + (i.1 : Int) := g5.1
        have hpop : CWr (sI wr 2 (st.length : Int)) N out st := ⟨g0, g1, g2, g3, rfl, g5.2⟩
        have nx : ∀ wr', CWr wr' (stp E rp i N).2.2 (out ++ (stp E rp i N).1) ((stp E rp i N).2.1 ++ st) → wfr (sI wr 2 (st.length : Int)) wr' → Wri_write_103 (fun x2 wr'' => Wri_write_13 n x2 nm te wr'' K) (k : Int) nm te wr' K := fun wr' c' f' => ⟨⟨by omega, by omega⟩, ih (k + 1) _ _ _ wr' hr (by omega) c' (wfr_trans hf f')⟩
        rw [e1, e3]
        have hi4 : i.1 < 4 := by rcases hg with ⟨q, -⟩ | ⟨q, -⟩ <;> omega
        have em : ((i.2 : Int) * 4 + (i.1 : Int)) % 4 = (i.1 : Int) := by omega
        have ed : ((i.2 : Int) * 4 + (i.1 : Int)) / 4 = (i.2 : Int) := by omega
        rw [em, ed]
        refine ⟨⟨by omega, by omega⟩, ⟨by omega, by omega⟩, by omega, by omega, fun w2 => ⟨by omega, fun w0 => ?_, fun w0 => ?_⟩, fun w2 => ?_⟩
        · rcases hg with ⟨q, -⟩ | ⟨q, q1, q2, q3⟩
          · omega
          · have hi : i = (1, i.2) := Prod.ext (by show i.1 = 1; omega) rfl
            refine sp_stand hT.2.1 hcl ⟨hT.1.1, hT.1.2.1⟩ q1 ?_
            rw [hi] at nx
            exact sp_crest hW hO hT.1 q2 hpop hl1 hs2 nx
        · rcases hg with ⟨q, -⟩ | ⟨q, q1, q2, q3⟩
          · omega
          · have hi : i = (0, i.2) := Prod.ext (by show i.1 = 0; omega) rfl
            refine sp_stand hT.2.1 hcl ⟨hT.1.1, hT.1.2.1⟩ q1 ?_
            have h3' := h3 (by omega)
            rw [hi] at nx hl hs hN
            exact sp_cterm hn hW hO hT.1 q2 q3 hpop hl hs hN h3' (by omega) nx
        · rcases hg with ⟨q, q1⟩ | ⟨q, -⟩
          · have e00 : stp E rp i N = ([(i.2 : Int)], [], N) := by
              unfold stp
              rw [if_neg (by omega), if_neg (by omega)]
            rw [e00] at nx
            exact ⟨⟨by omega, by omega⟩, sp_cput hpop hl1 ⟨by omega, by omega⟩ nx⟩
          · omega
