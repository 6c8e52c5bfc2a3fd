/-! the reference's steps are determined (printed by wip/gen/det.py) -/
def Dt {α : Type} (P : (α → Prop) → Prop) : Prop := ∀ K, P K → ∃ a, K a ∧ ∀ K', K' a → P K'
def D2 {α β : Type} (P : (α → β → Prop) → Prop) : Prop := ∀ K, P K → ∃ a b, K a b ∧ ∀ K', K' a b → P K'
theorem Dt_K {α : Type} (a : α) : Dt (fun K : α → Prop => K a) := fun _ h => ⟨a, h, fun _ k => k⟩
theorem D2_K {α β : Type} (a : α) (b : β) : D2 (fun K : α → β → Prop => K a b) := fun _ h => ⟨a, b, h, fun _ k => k⟩
theorem Dt_F {α : Type} : Dt (fun _ : α → Prop => False) := fun _ h => absurd h id
theorem D2_F {α β : Type} : D2 (fun _ : α → β → Prop => False) := fun _ h => absurd h id
theorem Dt_and {α : Type} {g : Prop} {P : (α → Prop) → Prop} (h : Dt P) : Dt (fun K => g ∧ P K) := fun K hk => by
  obtain ⟨a, h1, h2⟩ := h K hk.2
  exact ⟨a, h1, fun K' k => ⟨hk.1, h2 K' k⟩⟩
theorem D2_and {α β : Type} {g : Prop} {P : (α → β → Prop) → Prop} (h : D2 P) : D2 (fun K => g ∧ P K) := fun K hk => by
  obtain ⟨a, b, h1, h2⟩ := h K hk.2
  exact ⟨a, b, h1, fun K' k => ⟨hk.1, h2 K' k⟩⟩
theorem Dt_ite {α : Type} {c : Prop} {A B : (α → Prop) → Prop} (hA : c → Dt A) (hB : ¬ c → Dt B) : Dt (fun K => (c → A K) ∧ (¬ c → B K)) := fun K hk => by
  by_cases hc : c
  · obtain ⟨a, h1, h2⟩ := hA hc K (hk.1 hc)
    exact ⟨a, h1, fun K' k => ⟨fun _ => h2 K' k, fun z => absurd hc z⟩⟩
  · obtain ⟨a, h1, h2⟩ := hB hc K (hk.2 hc)
    exact ⟨a, h1, fun K' k => ⟨fun z => absurd z hc, fun _ => h2 K' k⟩⟩
theorem D2_ite {α β : Type} {c : Prop} {A B : (α → β → Prop) → Prop} (hA : c → D2 A) (hB : ¬ c → D2 B) : D2 (fun K => (c → A K) ∧ (¬ c → B K)) := fun K hk => by
  by_cases hc : c
  · obtain ⟨a, b, h1, h2⟩ := hA hc K (hk.1 hc)
    exact ⟨a, b, h1, fun K' k => ⟨fun _ => h2 K' k, fun z => absurd hc z⟩⟩
  · obtain ⟨a, b, h1, h2⟩ := hB hc K (hk.2 hc)
    exact ⟨a, b, h1, fun K' k => ⟨fun z => absurd z hc, fun _ => h2 K' k⟩⟩
theorem Dt_ite2 {α : Type} {c : Prop} {A B : (α → Prop) → Prop} (hA : ¬ c → Dt A) (hB : c → Dt B) : Dt (fun K => (¬ c → A K) ∧ (c → B K)) := fun K hk => by
  by_cases hc : c
  · obtain ⟨a, h1, h2⟩ := hB hc K (hk.2 hc)
    exact ⟨a, h1, fun K' k => ⟨fun z => absurd hc z, fun _ => h2 K' k⟩⟩
  · obtain ⟨a, h1, h2⟩ := hA hc K (hk.1 hc)
    exact ⟨a, h1, fun K' k => ⟨fun _ => h2 K' k, fun z => absurd z hc⟩⟩
theorem D2_ite2 {α β : Type} {c : Prop} {A B : (α → β → Prop) → Prop} (hA : ¬ c → D2 A) (hB : c → D2 B) : D2 (fun K => (¬ c → A K) ∧ (c → B K)) := fun K hk => by
  by_cases hc : c
  · obtain ⟨a, b, h1, h2⟩ := hB hc K (hk.2 hc)
    exact ⟨a, b, h1, fun K' k => ⟨fun z => absurd hc z, fun _ => h2 K' k⟩⟩
  · obtain ⟨a, b, h1, h2⟩ := hA hc K (hk.1 hc)
    exact ⟨a, b, h1, fun K' k => ⟨fun _ => h2 K' k, fun z => absurd z hc⟩⟩
theorem Dt_ex {α : Type} {P : Nat → (α → Prop) → Prop} (h : ∀ n, Dt (P n)) : Dt (fun K => ∃ n, P n K) := fun K hk => by
  obtain ⟨n, hk⟩ := hk
  obtain ⟨a, h1, h2⟩ := h n K hk
  exact ⟨a, h1, fun K' k => ⟨n, h2 K' k⟩⟩
theorem D2_ex {α β : Type} {P : Nat → (α → β → Prop) → Prop} (h : ∀ n, D2 (P n)) : D2 (fun K => ∃ n, P n K) := fun K hk => by
  obtain ⟨n, hk⟩ := hk
  obtain ⟨a, b, h1, h2⟩ := h n K hk
  exact ⟨a, b, h1, fun K' k => ⟨n, h2 K' k⟩⟩
theorem bind11 {α γ : Type} {Z : (γ → Prop) → Prop} {C : γ → (α → Prop) → Prop} (hZ : Dt Z) (hC : ∀ r, Dt (C r)) : Dt (fun K => Z (fun r => C r K)) := fun K hk => by
  obtain ⟨r, h1, h2⟩ := hZ _ hk
  obtain ⟨a, h3, h4⟩ := hC r K h1
  exact ⟨a, h3, fun K' k => h2 _ (h4 K' k)⟩
theorem bind12 {α β γ : Type} {Z : (γ → Prop) → Prop} {C : γ → (α → β → Prop) → Prop} (hZ : Dt Z) (hC : ∀ r, D2 (C r)) : D2 (fun K => Z (fun r => C r K)) := fun K hk => by
  obtain ⟨r, h1, h2⟩ := hZ _ hk
  obtain ⟨a, b, h3, h4⟩ := hC r K h1
  exact ⟨a, b, h3, fun K' k => h2 _ (h4 K' k)⟩
theorem bind21 {α γ δ : Type} {Z : (γ → δ → Prop) → Prop} {C : γ → δ → (α → Prop) → Prop} (hZ : D2 Z) (hC : ∀ r s, Dt (C r s)) : Dt (fun K => Z (fun r s => C r s K)) := fun K hk => by
  obtain ⟨r, s, h1, h2⟩ := hZ _ hk
  obtain ⟨a, h3, h4⟩ := hC r s K h1
  exact ⟨a, h3, fun K' k => h2 _ (h4 K' k)⟩
theorem bind22 {α β γ δ : Type} {Z : (γ → δ → Prop) → Prop} {C : γ → δ → (α → β → Prop) → Prop} (hZ : D2 Z) (hC : ∀ r s, D2 (C r s)) : D2 (fun K => Z (fun r s => C r s K)) := fun K hk => by
  obtain ⟨r, s, h1, h2⟩ := hZ _ hk
  obtain ⟨a, b, h3, h4⟩ := hC r s K h1
  exact ⟨a, b, h3, fun K' k => h2 _ (h4 K' k)⟩
theorem dt_M_clearFrame_2 : ∀ (n : Nat) (a0 : Int) (a1 : Int) (a2 : Ob), Dt (fun K => M_clearFrame_2 n a0 a1 a2 K) := by
  intro n
  induction n with
  | zero => intro a0 a1 a2; exact Dt_F
  | succ n ih =>
    intro a0 a1 a2
    unfold M_clearFrame_2
    repeat' (first | exact Dt_K _ | exact ih _ _ _ | refine Dt_ite (fun _ => ?_) (fun _ => ?_) | refine Dt_ite2 (fun _ => ?_) (fun _ => ?_) | refine Dt_ex (fun _ => ?_) | refine Dt_and ?_)
theorem dt_wp_M_clearFrame (x1 : Int) (m : Ob) : Dt (fun K => wp_M_clearFrame x1 m K) := by
  unfold wp_M_clearFrame
  repeat' (first | exact Dt_K _ | exact dt_M_clearFrame_2 _ _ _ _ | refine bind11 (dt_M_clearFrame_2 _ _ _ _) (fun _ => ?_) | refine Dt_ite (fun _ => ?_) (fun _ => ?_) | refine Dt_ite2 (fun _ => ?_) (fun _ => ?_) | refine Dt_ex (fun _ => ?_) | refine Dt_and ?_)
theorem dt_M_prepend_10 : ∀ (n : Nat) (a0 : Int) (a1 : Int) (a2 : Int) (a3 : Int) (a4 : Ob), Dt (fun K => M_prepend_10 n a0 a1 a2 a3 a4 K) := by
  intro n
  induction n with
  | zero => intro a0 a1 a2 a3 a4; exact Dt_F
  | succ n ih =>
    intro a0 a1 a2 a3 a4
    unfold M_prepend_10
    repeat' (first | exact Dt_K _ | exact ih _ _ _ _ _ | refine Dt_ite (fun _ => ?_) (fun _ => ?_) | refine Dt_ite2 (fun _ => ?_) (fun _ => ?_) | refine Dt_ex (fun _ => ?_) | refine Dt_and ?_)
theorem dt_wp_M_prepend (x1 : Int) (x2 : Int) (x3 : Int) (m : Ob) : Dt (fun K => wp_M_prepend x1 x2 x3 m K) := by
  unfold wp_M_prepend
  repeat' (first | exact Dt_K _ | exact dt_M_prepend_10 _ _ _ _ _ _ | refine bind11 (dt_M_prepend_10 _ _ _ _ _ _) (fun _ => ?_) | refine Dt_ite (fun _ => ?_) (fun _ => ?_) | refine Dt_ite2 (fun _ => ?_) (fun _ => ?_) | refine Dt_ex (fun _ => ?_) | refine Dt_and ?_)
theorem dt_wp_M_begin (m : Ob) : Dt (fun K => wp_M_begin m K) := by
  unfold wp_M_begin
  repeat' (first | exact Dt_K _ | exact dt_wp_M_clearFrame _ _ | refine bind11 (dt_wp_M_clearFrame _ _) (fun _ => ?_) | exact dt_wp_M_prepend _ _ _ _ | refine bind11 (dt_wp_M_prepend _ _ _ _) (fun _ => ?_) | refine Dt_ite (fun _ => ?_) (fun _ => ?_) | refine Dt_ite2 (fun _ => ?_) (fun _ => ?_) | refine Dt_ex (fun _ => ?_) | refine Dt_and ?_)
theorem dt_wp_M_end (x1 : Int) (m : Ob) : Dt (fun K => wp_M_end x1 m K) := by
  unfold wp_M_end
  repeat' (first | exact Dt_K _ | refine Dt_ite (fun _ => ?_) (fun _ => ?_) | refine Dt_ite2 (fun _ => ?_) (fun _ => ?_) | refine Dt_ex (fun _ => ?_) | refine Dt_and ?_)
theorem dt_wp_M_isWordAlone (x1 : Int) (y2 : Nat) (m : Ob) : Dt (fun K => wp_M_isWordAlone x1 y2 m K) := by
  unfold wp_M_isWordAlone
  repeat' (first | exact Dt_K _ | refine Dt_ite (fun _ => ?_) (fun _ => ?_) | refine Dt_ite2 (fun _ => ?_) (fun _ => ?_) | refine Dt_ex (fun _ => ?_) | refine Dt_and ?_)
theorem dt_M_follow_12 : ∀ (n : Nat) (a0 : Int) (a1 : Ob), Dt (fun K => M_follow_12 n a0 a1 K) := by
  intro n
  induction n with
  | zero => intro a0 a1; exact Dt_F
  | succ n ih =>
    intro a0 a1
    unfold M_follow_12
    repeat' (first | exact Dt_K _ | exact ih _ _ | refine Dt_ite (fun _ => ?_) (fun _ => ?_) | refine Dt_ite2 (fun _ => ?_) (fun _ => ?_) | refine Dt_ex (fun _ => ?_) | refine Dt_and ?_)
theorem dt_wp_M_follow (x1 : Int) (x2 : Int) (m : Ob) : Dt (fun K => wp_M_follow x1 x2 m K) := by
  unfold wp_M_follow
  repeat' (first | exact Dt_K _ | exact dt_M_follow_12 _ _ _ | refine bind11 (dt_M_follow_12 _ _ _) (fun _ => ?_) | refine Dt_ite (fun _ => ?_) (fun _ => ?_) | refine Dt_ite2 (fun _ => ?_) (fun _ => ?_) | refine Dt_ex (fun _ => ?_) | refine Dt_and ?_)
theorem dt_M_candidate_159 {LL5 : Int → Int → Int → Ob → (Int → Ob → Prop) → Prop} (hL5 : ∀ (b0 : Int) (b1 : Int) (b2 : Int) (b3 : Ob), D2 (fun K => LL5 b0 b1 b2 b3 K)) (x1 : Int) (x2 : Int) (x4 : Int) (x6 : Int) (m : Ob) : D2 (fun K => M_candidate_159 (fun b0 b1 b2 b3 => LL5 b0 b1 b2 b3 K) x1 x2 x4 x6 m K) := by
  unfold M_candidate_159
  repeat' (first | exact D2_K _ _ | exact hL5 _ _ _ _ | refine D2_ite (fun _ => ?_) (fun _ => ?_) | refine D2_ite2 (fun _ => ?_) (fun _ => ?_) | refine D2_ex (fun _ => ?_) | refine D2_and ?_)
theorem dt_M_candidate_157 {LL5 : Int → Int → Int → Ob → (Int → Ob → Prop) → Prop} (hL5 : ∀ (b0 : Int) (b1 : Int) (b2 : Int) (b3 : Ob), D2 (fun K => LL5 b0 b1 b2 b3 K)) (x1 : Int) (x2 : Int) (x4 : Int) (s0 : Int) (m : Ob) : D2 (fun K => M_candidate_157 (fun b0 b1 b2 b3 => LL5 b0 b1 b2 b3 K) x1 x2 x4 s0 m K) := by
  unfold M_candidate_157
  repeat' (first | exact D2_K _ _ | exact hL5 _ _ _ _ | exact dt_M_candidate_159 hL5 _ _ _ _ _ | refine bind22 (dt_M_candidate_159 hL5 _ _ _ _ _) (fun _ _ => ?_) | refine D2_ite (fun _ => ?_) (fun _ => ?_) | refine D2_ite2 (fun _ => ?_) (fun _ => ?_) | refine D2_ex (fun _ => ?_) | refine D2_and ?_)
theorem dt_M_candidate_152 {LL5 : Int → Int → Int → Ob → (Int → Ob → Prop) → Prop} (hL5 : ∀ (b0 : Int) (b1 : Int) (b2 : Int) (b3 : Ob), D2 (fun K => LL5 b0 b1 b2 b3 K)) (x1 : Int) (x2 : Int) (x4 : Int) (m : Ob) : D2 (fun K => M_candidate_152 (fun b0 b1 b2 b3 => LL5 b0 b1 b2 b3 K) x1 x2 x4 m K) := by
  unfold M_candidate_152
  repeat' (first | exact D2_K _ _ | exact hL5 _ _ _ _ | exact dt_M_candidate_157 hL5 _ _ _ _ _ | refine bind22 (dt_M_candidate_157 hL5 _ _ _ _ _) (fun _ _ => ?_) | refine D2_ite (fun _ => ?_) (fun _ => ?_) | refine D2_ite2 (fun _ => ?_) (fun _ => ?_) | refine D2_ex (fun _ => ?_) | refine D2_and ?_)
theorem dt_M_candidate_156 {LL5 : Int → Int → Int → Ob → (Int → Ob → Prop) → Prop} (hL5 : ∀ (b0 : Int) (b1 : Int) (b2 : Int) (b3 : Ob), D2 (fun K => LL5 b0 b1 b2 b3 K)) (x1 : Int) (x2 : Int) (x4 : Int) (m : Ob) : D2 (fun K => M_candidate_156 (fun b0 b1 b2 b3 => LL5 b0 b1 b2 b3 K) x1 x2 x4 m K) := by
  unfold M_candidate_156
  repeat' (first | exact D2_K _ _ | exact hL5 _ _ _ _ | exact dt_M_candidate_157 hL5 _ _ _ _ _ | refine bind22 (dt_M_candidate_157 hL5 _ _ _ _ _) (fun _ _ => ?_) | refine D2_ite (fun _ => ?_) (fun _ => ?_) | refine D2_ite2 (fun _ => ?_) (fun _ => ?_) | refine D2_ex (fun _ => ?_) | refine D2_and ?_)
theorem dt_M_candidate_59 {LL5 : Int → Int → Int → Ob → (Int → Ob → Prop) → Prop} (hL5 : ∀ (b0 : Int) (b1 : Int) (b2 : Int) (b3 : Ob), D2 (fun K => LL5 b0 b1 b2 b3 K)) (x1 : Int) (x2 : Int) (x4 : Int) (x5 : Int) (s0 : Int) (m : Ob) : D2 (fun K => M_candidate_59 (fun b0 b1 b2 b3 => LL5 b0 b1 b2 b3 K) x1 x2 x4 x5 s0 m K) := by
  unfold M_candidate_59
  repeat' (first | exact D2_K _ _ | exact hL5 _ _ _ _ | exact dt_M_candidate_159 hL5 _ _ _ _ _ | refine bind22 (dt_M_candidate_159 hL5 _ _ _ _ _) (fun _ _ => ?_) | exact dt_wp_M_follow _ _ _ | refine bind12 (dt_wp_M_follow _ _ _) (fun _ => ?_) | exact dt_M_candidate_152 hL5 _ _ _ _ | refine bind22 (dt_M_candidate_152 hL5 _ _ _ _) (fun _ _ => ?_) | exact dt_M_candidate_156 hL5 _ _ _ _ | refine bind22 (dt_M_candidate_156 hL5 _ _ _ _) (fun _ _ => ?_) | refine D2_ite (fun _ => ?_) (fun _ => ?_) | refine D2_ite2 (fun _ => ?_) (fun _ => ?_) | refine D2_ex (fun _ => ?_) | refine D2_and ?_)
theorem dt_M_candidate_58 {LL5 : Int → Int → Int → Ob → (Int → Ob → Prop) → Prop} (hL5 : ∀ (b0 : Int) (b1 : Int) (b2 : Int) (b3 : Ob), D2 (fun K => LL5 b0 b1 b2 b3 K)) (x1 : Int) (x2 : Int) (x4 : Int) (x5 : Int) (m : Ob) : D2 (fun K => M_candidate_58 (fun b0 b1 b2 b3 => LL5 b0 b1 b2 b3 K) x1 x2 x4 x5 m K) := by
  unfold M_candidate_58
  repeat' (first | exact D2_K _ _ | exact hL5 _ _ _ _ | exact dt_M_candidate_59 hL5 _ _ _ _ _ _ | refine bind22 (dt_M_candidate_59 hL5 _ _ _ _ _ _) (fun _ _ => ?_) | refine D2_ite (fun _ => ?_) (fun _ => ?_) | refine D2_ite2 (fun _ => ?_) (fun _ => ?_) | refine D2_ex (fun _ => ?_) | refine D2_and ?_)
theorem dt_M_candidate_5 : ∀ (n : Nat) (a0 : Int) (a1 : Int) (a2 : Int) (a3 : Ob), D2 (fun K => M_candidate_5 n a0 a1 a2 a3 K) := by
  intro n
  induction n with
  | zero => intro a0 a1 a2 a3; exact D2_F
  | succ n ih =>
    intro a0 a1 a2 a3
    unfold M_candidate_5
    repeat' (first | exact D2_K _ _ | exact ih _ _ _ _ | exact dt_M_candidate_58 (fun _ _ _ _ => ih _ _ _ _) _ _ _ _ _ | refine bind22 (dt_M_candidate_58 (fun _ _ _ _ => ih _ _ _ _) _ _ _ _ _) (fun _ _ => ?_) | exact dt_M_candidate_59 (fun _ _ _ _ => ih _ _ _ _) _ _ _ _ _ _ | refine bind22 (dt_M_candidate_59 (fun _ _ _ _ => ih _ _ _ _) _ _ _ _ _ _) (fun _ _ => ?_) | refine D2_ite (fun _ => ?_) (fun _ => ?_) | refine D2_ite2 (fun _ => ?_) (fun _ => ?_) | refine D2_ex (fun _ => ?_) | refine D2_and ?_)
theorem dt_wp_M_candidate (x1 : Int) (x2 : Int) (x3 : Int) (m : Ob) : D2 (fun K => wp_M_candidate x1 x2 x3 m K) := by
  unfold wp_M_candidate
  repeat' (first | exact D2_K _ _ | exact dt_M_candidate_5 _ _ _ _ _ | refine bind22 (dt_M_candidate_5 _ _ _ _ _) (fun _ _ => ?_) | refine D2_ite (fun _ => ?_) (fun _ => ?_) | refine D2_ite2 (fun _ => ?_) (fun _ => ?_) | refine D2_ex (fun _ => ?_) | refine D2_and ?_)
theorem dt_M_behind_29 {LL4 : Int → Int → (Int → Prop) → Prop} (hL4 : ∀ (b0 : Int) (b1 : Int), Dt (fun K => LL4 b0 b1 K)) (x2 : Int) (s0 : Int) (m : Ob) : Dt (fun K => M_behind_29 (fun b0 b1 => LL4 b0 b1 K) x2 s0 m K) := by
  unfold M_behind_29
  repeat' (first | exact Dt_K _ | exact hL4 _ _ | refine Dt_ite (fun _ => ?_) (fun _ => ?_) | refine Dt_ite2 (fun _ => ?_) (fun _ => ?_) | refine Dt_ex (fun _ => ?_) | refine Dt_and ?_)
theorem dt_M_behind_4 : ∀ (n : Nat) (a0 : Int) (a1 : Int) (a2 : Ob), Dt (fun K => M_behind_4 n a0 a1 a2 K) := by
  intro n
  induction n with
  | zero => intro a0 a1 a2; exact Dt_F
  | succ n ih =>
    intro a0 a1 a2
    unfold M_behind_4
    repeat' (first | exact Dt_K _ | exact ih _ _ _ | exact dt_M_behind_29 (fun _ _ => ih _ _ _) _ _ _ | refine bind11 (dt_M_behind_29 (fun _ _ => ih _ _ _) _ _ _) (fun _ => ?_) | refine Dt_ite (fun _ => ?_) (fun _ => ?_) | refine Dt_ite2 (fun _ => ?_) (fun _ => ?_) | refine Dt_ex (fun _ => ?_) | refine Dt_and ?_)
theorem dt_wp_M_behind (x1 : Int) (m : Ob) : Dt (fun K => wp_M_behind x1 m K) := by
  unfold wp_M_behind
  repeat' (first | exact Dt_K _ | exact dt_M_behind_4 _ _ _ _ | refine bind11 (dt_M_behind_4 _ _ _ _) (fun _ => ?_) | refine Dt_ite (fun _ => ?_) (fun _ => ?_) | refine Dt_ite2 (fun _ => ?_) (fun _ => ?_) | refine Dt_ex (fun _ => ?_) | refine Dt_and ?_)
theorem dt_M_pushAll_78 (x3 : Int) (x4 : Int) (m : Ob) : D2 (fun K => M_pushAll_78 x3 x4 m K) := by
  unfold M_pushAll_78
  repeat' (first | exact D2_K _ _ | refine D2_ite (fun _ => ?_) (fun _ => ?_) | refine D2_ite2 (fun _ => ?_) (fun _ => ?_) | refine D2_ex (fun _ => ?_) | refine D2_and ?_)
theorem dt_M_pushAll_32 : ∀ (n : Nat) (a0 : Int) (a1 : Int) (a2 : Int) (a3 : Int) (a4 : Int) (a5 : Ob), D2 (fun K => M_pushAll_32 n a0 a1 a2 a3 a4 a5 K) := by
  intro n
  induction n with
  | zero => intro a0 a1 a2 a3 a4 a5; exact D2_F
  | succ n ih =>
    intro a0 a1 a2 a3 a4 a5
    unfold M_pushAll_32
    repeat' (first | exact D2_K _ _ | exact ih _ _ _ _ _ _ | exact dt_M_pushAll_78 _ _ _ | refine bind22 (dt_M_pushAll_78 _ _ _) (fun _ _ => ?_) | exact dt_wp_M_behind _ _ | refine bind12 (dt_wp_M_behind _ _) (fun _ => ?_) | refine D2_ite (fun _ => ?_) (fun _ => ?_) | refine D2_ite2 (fun _ => ?_) (fun _ => ?_) | refine D2_ex (fun _ => ?_) | refine D2_and ?_)
theorem dt_M_pushAll_19 (x1 : Int) (x2 : Int) (x3 : Int) (s0 : Int) (m : Ob) : D2 (fun K => M_pushAll_19 x1 x2 x3 s0 m K) := by
  unfold M_pushAll_19
  repeat' (first | exact D2_K _ _ | exact dt_M_pushAll_32 _ _ _ _ _ _ _ | refine bind22 (dt_M_pushAll_32 _ _ _ _ _ _ _) (fun _ _ => ?_) | refine D2_ite (fun _ => ?_) (fun _ => ?_) | refine D2_ite2 (fun _ => ?_) (fun _ => ?_) | refine D2_ex (fun _ => ?_) | refine D2_and ?_)
theorem dt_wp_M_pushAll (x1 : Int) (x2 : Int) (x3 : Int) (m : Ob) : D2 (fun K => wp_M_pushAll x1 x2 x3 m K) := by
  unfold wp_M_pushAll
  repeat' (first | exact D2_K _ _ | exact dt_M_pushAll_19 _ _ _ _ _ | refine bind22 (dt_M_pushAll_19 _ _ _ _ _) (fun _ _ => ?_) | refine D2_ite (fun _ => ?_) (fun _ => ?_) | refine D2_ite2 (fun _ => ?_) (fun _ => ?_) | refine D2_ex (fun _ => ?_) | refine D2_and ?_)
theorem dt_M_stands_90 {LL24 : Int → Int → Int → Ob → (Int → Ob → Prop) → Prop} (hL24 : ∀ (b0 : Int) (b1 : Int) (b2 : Int) (b3 : Ob), D2 (fun K => LL24 b0 b1 b2 b3 K)) (x1 : Int) (x4 : Int) (x5 : Int) (m : Ob) : D2 (fun K => M_stands_90 (fun b0 b1 b2 b3 => LL24 b0 b1 b2 b3 K) x1 x4 x5 m K) := by
  unfold M_stands_90
  repeat' (first | exact D2_K _ _ | exact hL24 _ _ _ _ | exact dt_wp_M_pushAll _ _ _ _ | refine bind22 (dt_wp_M_pushAll _ _ _ _) (fun _ _ => ?_) | refine D2_ite (fun _ => ?_) (fun _ => ?_) | refine D2_ite2 (fun _ => ?_) (fun _ => ?_) | refine D2_ex (fun _ => ?_) | refine D2_and ?_)
theorem dt_M_stands_24 : ∀ (n : Nat) (a0 : Int) (a1 : Int) (a2 : Int) (a3 : Ob), D2 (fun K => M_stands_24 n a0 a1 a2 a3 K) := by
  intro n
  induction n with
  | zero => intro a0 a1 a2 a3; exact D2_F
  | succ n ih =>
    intro a0 a1 a2 a3
    unfold M_stands_24
    repeat' (first | exact D2_K _ _ | exact ih _ _ _ _ | exact dt_wp_M_follow _ _ _ | refine bind12 (dt_wp_M_follow _ _ _) (fun _ => ?_) | exact dt_M_stands_90 (fun _ _ _ _ => ih _ _ _ _) _ _ _ _ | refine bind22 (dt_M_stands_90 (fun _ _ _ _ => ih _ _ _ _) _ _ _ _) (fun _ _ => ?_) | refine D2_ite (fun _ => ?_) (fun _ => ?_) | refine D2_ite2 (fun _ => ?_) (fun _ => ?_) | refine D2_ex (fun _ => ?_) | refine D2_and ?_)
theorem dt_wp_M_stands (x1 : Int) (x2 : Int) (x3 : Int) (x4 : Int) (m : Ob) : D2 (fun K => wp_M_stands x1 x2 x3 x4 m K) := by
  unfold wp_M_stands
  repeat' (first | exact D2_K _ _ | exact dt_M_stands_24 _ _ _ _ _ | refine bind22 (dt_M_stands_24 _ _ _ _ _) (fun _ _ => ?_) | refine D2_ite (fun _ => ?_) (fun _ => ?_) | refine D2_ite2 (fun _ => ?_) (fun _ => ?_) | refine D2_ex (fun _ => ?_) | refine D2_and ?_)
theorem dt_wp_M_bind (x1 : Int) (x2 : Int) (x3 : Int) (x4 : Int) (m : Ob) : D2 (fun K => wp_M_bind x1 x2 x3 x4 m K) := by
  unfold wp_M_bind
  repeat' (first | exact D2_K _ _ | exact dt_wp_M_stands _ _ _ _ _ | refine bind22 (dt_wp_M_stands _ _ _ _ _) (fun _ _ => ?_) | refine D2_ite (fun _ => ?_) (fun _ => ?_) | refine D2_ite2 (fun _ => ?_) (fun _ => ?_) | refine D2_ex (fun _ => ?_) | refine D2_and ?_)
theorem dt_M_equalize_430 {LL32 : Int → Ob → (Int → Ob → Prop) → Prop} (hL32 : ∀ (b0 : Int) (b1 : Ob), D2 (fun K => LL32 b0 b1 K)) (x5 : Int) (m : Ob) : D2 (fun K => M_equalize_430 (fun b0 b1 => LL32 b0 b1 K) x5 m K) := by
  unfold M_equalize_430
  repeat' (first | exact D2_K _ _ | exact hL32 _ _ | refine D2_ite (fun _ => ?_) (fun _ => ?_) | refine D2_ite2 (fun _ => ?_) (fun _ => ?_) | refine D2_ex (fun _ => ?_) | refine D2_and ?_)
theorem dt_M_equalize_343 {LL32 : Int → Ob → (Int → Ob → Prop) → Prop} (hL32 : ∀ (b0 : Int) (b1 : Ob), D2 (fun K => LL32 b0 b1 K)) : ∀ (n : Nat) (a0 : Int) (a1 : Int) (a2 : Int) (a3 : Int) (a4 : Int) (a5 : Int) (a6 : Int) (a7 : Int) (a8 : Ob), D2 (fun K => M_equalize_343 (fun b0 b1 => LL32 b0 b1 K) n a0 a1 a2 a3 a4 a5 a6 a7 a8 K) := by
  intro n
  induction n with
  | zero => intro a0 a1 a2 a3 a4 a5 a6 a7 a8; exact D2_F
  | succ n ih =>
    intro a0 a1 a2 a3 a4 a5 a6 a7 a8
    unfold M_equalize_343
    repeat' (first | exact D2_K _ _ | exact hL32 _ _ | exact ih _ _ _ _ _ _ _ _ _ | exact dt_M_equalize_430 hL32 _ _ | refine bind22 (dt_M_equalize_430 hL32 _ _) (fun _ _ => ?_) | exact dt_M_equalize_430 (fun _ _ => ih _ _ _ _ _ _ _ _ _) _ _ | refine bind22 (dt_M_equalize_430 (fun _ _ => ih _ _ _ _ _ _ _ _ _) _ _) (fun _ _ => ?_) | exact dt_wp_M_behind _ _ | refine bind12 (dt_wp_M_behind _ _) (fun _ => ?_) | refine D2_ite (fun _ => ?_) (fun _ => ?_) | refine D2_ite2 (fun _ => ?_) (fun _ => ?_) | refine D2_ex (fun _ => ?_) | refine D2_and ?_)
theorem dt_M_equalize_328 {LL32 : Int → Ob → (Int → Ob → Prop) → Prop} (hL32 : ∀ (b0 : Int) (b1 : Ob), D2 (fun K => LL32 b0 b1 K)) (x5 : Int) (x6 : Int) (x7 : Int) (x8 : Int) (x9 : Int) (x15 : Int) (m : Ob) : D2 (fun K => M_equalize_328 (fun b0 b1 => LL32 b0 b1 K) x5 x6 x7 x8 x9 x15 m K) := by
  unfold M_equalize_328
  repeat' (first | exact D2_K _ _ | exact hL32 _ _ | exact dt_M_equalize_343 hL32 _ _ _ _ _ _ _ _ _ _ | refine bind22 (dt_M_equalize_343 hL32 _ _ _ _ _ _ _ _ _ _) (fun _ _ => ?_) | refine D2_ite (fun _ => ?_) (fun _ => ?_) | refine D2_ite2 (fun _ => ?_) (fun _ => ?_) | refine D2_ex (fun _ => ?_) | refine D2_and ?_)
theorem dt_M_equalize_286 {LL32 : Int → Ob → (Int → Ob → Prop) → Prop} (hL32 : ∀ (b0 : Int) (b1 : Ob), D2 (fun K => LL32 b0 b1 K)) (x5 : Int) (x6 : Int) (x7 : Int) (x8 : Int) (x9 : Int) (x15 : Int) (m : Ob) : D2 (fun K => M_equalize_286 (fun b0 b1 => LL32 b0 b1 K) x5 x6 x7 x8 x9 x15 m K) := by
  unfold M_equalize_286
  repeat' (first | exact D2_K _ _ | exact hL32 _ _ | exact dt_M_equalize_328 hL32 _ _ _ _ _ _ _ | refine bind22 (dt_M_equalize_328 hL32 _ _ _ _ _ _ _) (fun _ _ => ?_) | refine D2_ite (fun _ => ?_) (fun _ => ?_) | refine D2_ite2 (fun _ => ?_) (fun _ => ?_) | refine D2_ex (fun _ => ?_) | refine D2_and ?_)
theorem dt_M_equalize_234 {LL32 : Int → Ob → (Int → Ob → Prop) → Prop} (hL32 : ∀ (b0 : Int) (b1 : Ob), D2 (fun K => LL32 b0 b1 K)) (x5 : Int) (x6 : Int) (x7 : Int) (x8 : Int) (x9 : Int) (x10 : Int) (x12 : Int) (x13 : Int) (x14 : Int) (s0 : Int) (m : Ob) : D2 (fun K => M_equalize_234 (fun b0 b1 => LL32 b0 b1 K) x5 x6 x7 x8 x9 x10 x12 x13 x14 s0 m K) := by
  unfold M_equalize_234
  repeat' (first | exact D2_K _ _ | exact hL32 _ _ | exact dt_M_equalize_286 hL32 _ _ _ _ _ _ _ | refine bind22 (dt_M_equalize_286 hL32 _ _ _ _ _ _ _) (fun _ _ => ?_) | exact dt_wp_M_bind _ _ _ _ _ | refine bind22 (dt_wp_M_bind _ _ _ _ _) (fun _ _ => ?_) | refine D2_ite (fun _ => ?_) (fun _ => ?_) | refine D2_ite2 (fun _ => ?_) (fun _ => ?_) | refine D2_ex (fun _ => ?_) | refine D2_and ?_)
theorem dt_M_equalize_229 {LL32 : Int → Ob → (Int → Ob → Prop) → Prop} (hL32 : ∀ (b0 : Int) (b1 : Ob), D2 (fun K => LL32 b0 b1 K)) (x5 : Int) (x6 : Int) (x7 : Int) (x8 : Int) (x9 : Int) (x10 : Int) (x12 : Int) (x13 : Int) (x14 : Int) (m : Ob) : D2 (fun K => M_equalize_229 (fun b0 b1 => LL32 b0 b1 K) x5 x6 x7 x8 x9 x10 x12 x13 x14 m K) := by
  unfold M_equalize_229
  repeat' (first | exact D2_K _ _ | exact hL32 _ _ | exact dt_M_equalize_234 hL32 _ _ _ _ _ _ _ _ _ _ _ | refine bind22 (dt_M_equalize_234 hL32 _ _ _ _ _ _ _ _ _ _ _) (fun _ _ => ?_) | refine D2_ite (fun _ => ?_) (fun _ => ?_) | refine D2_ite2 (fun _ => ?_) (fun _ => ?_) | refine D2_ex (fun _ => ?_) | refine D2_and ?_)
theorem dt_M_equalize_217 {LL32 : Int → Ob → (Int → Ob → Prop) → Prop} (hL32 : ∀ (b0 : Int) (b1 : Ob), D2 (fun K => LL32 b0 b1 K)) (x5 : Int) (x6 : Int) (x7 : Int) (x8 : Int) (x9 : Int) (x10 : Int) (x11 : Int) (x12 : Int) (x13 : Int) (s0 : Int) (m : Ob) : D2 (fun K => M_equalize_217 (fun b0 b1 => LL32 b0 b1 K) x5 x6 x7 x8 x9 x10 x11 x12 x13 s0 m K) := by
  unfold M_equalize_217
  repeat' (first | exact D2_K _ _ | exact hL32 _ _ | exact dt_M_equalize_229 hL32 _ _ _ _ _ _ _ _ _ _ | refine bind22 (dt_M_equalize_229 hL32 _ _ _ _ _ _ _ _ _ _) (fun _ _ => ?_) | exact dt_M_equalize_234 hL32 _ _ _ _ _ _ _ _ _ _ _ | refine bind22 (dt_M_equalize_234 hL32 _ _ _ _ _ _ _ _ _ _ _) (fun _ _ => ?_) | refine D2_ite (fun _ => ?_) (fun _ => ?_) | refine D2_ite2 (fun _ => ?_) (fun _ => ?_) | refine D2_ex (fun _ => ?_) | refine D2_and ?_)
theorem dt_M_equalize_216 {LL32 : Int → Ob → (Int → Ob → Prop) → Prop} (hL32 : ∀ (b0 : Int) (b1 : Ob), D2 (fun K => LL32 b0 b1 K)) (x5 : Int) (x6 : Int) (x7 : Int) (x8 : Int) (x9 : Int) (x10 : Int) (x11 : Int) (x12 : Int) (x13 : Int) (m : Ob) : D2 (fun K => M_equalize_216 (fun b0 b1 => LL32 b0 b1 K) x5 x6 x7 x8 x9 x10 x11 x12 x13 m K) := by
  unfold M_equalize_216
  repeat' (first | exact D2_K _ _ | exact hL32 _ _ | exact dt_M_equalize_217 hL32 _ _ _ _ _ _ _ _ _ _ _ | refine bind22 (dt_M_equalize_217 hL32 _ _ _ _ _ _ _ _ _ _ _) (fun _ _ => ?_) | refine D2_ite (fun _ => ?_) (fun _ => ?_) | refine D2_ite2 (fun _ => ?_) (fun _ => ?_) | refine D2_ex (fun _ => ?_) | refine D2_and ?_)
theorem dt_M_equalize_193 {LL32 : Int → Ob → (Int → Ob → Prop) → Prop} (hL32 : ∀ (b0 : Int) (b1 : Ob), D2 (fun K => LL32 b0 b1 K)) (x5 : Int) (x6 : Int) (x7 : Int) (x8 : Int) (x9 : Int) (x10 : Int) (x11 : Int) (x12 : Int) (s0 : Int) (m : Ob) : D2 (fun K => M_equalize_193 (fun b0 b1 => LL32 b0 b1 K) x5 x6 x7 x8 x9 x10 x11 x12 s0 m K) := by
  unfold M_equalize_193
  repeat' (first | exact D2_K _ _ | exact hL32 _ _ | exact dt_M_equalize_216 hL32 _ _ _ _ _ _ _ _ _ _ | refine bind22 (dt_M_equalize_216 hL32 _ _ _ _ _ _ _ _ _ _) (fun _ _ => ?_) | exact dt_M_equalize_217 hL32 _ _ _ _ _ _ _ _ _ _ _ | refine bind22 (dt_M_equalize_217 hL32 _ _ _ _ _ _ _ _ _ _ _) (fun _ _ => ?_) | refine D2_ite (fun _ => ?_) (fun _ => ?_) | refine D2_ite2 (fun _ => ?_) (fun _ => ?_) | refine D2_ex (fun _ => ?_) | refine D2_and ?_)
theorem dt_M_equalize_168 {LL32 : Int → Ob → (Int → Ob → Prop) → Prop} (hL32 : ∀ (b0 : Int) (b1 : Ob), D2 (fun K => LL32 b0 b1 K)) (x5 : Int) (x6 : Int) (x7 : Int) (x8 : Int) (x9 : Int) (x10 : Int) (x11 : Int) (s0 : Int) (m : Ob) : D2 (fun K => M_equalize_168 (fun b0 b1 => LL32 b0 b1 K) x5 x6 x7 x8 x9 x10 x11 s0 m K) := by
  unfold M_equalize_168
  repeat' (first | exact D2_K _ _ | exact hL32 _ _ | exact dt_M_equalize_193 hL32 _ _ _ _ _ _ _ _ _ _ | refine bind22 (dt_M_equalize_193 hL32 _ _ _ _ _ _ _ _ _ _) (fun _ _ => ?_) | refine D2_ite (fun _ => ?_) (fun _ => ?_) | refine D2_ite2 (fun _ => ?_) (fun _ => ?_) | refine D2_ex (fun _ => ?_) | refine D2_and ?_)
theorem dt_M_equalize_143 {LL32 : Int → Ob → (Int → Ob → Prop) → Prop} (hL32 : ∀ (b0 : Int) (b1 : Ob), D2 (fun K => LL32 b0 b1 K)) (x5 : Int) (x6 : Int) (x7 : Int) (x8 : Int) (x9 : Int) (x10 : Int) (s0 : Int) (m : Ob) : D2 (fun K => M_equalize_143 (fun b0 b1 => LL32 b0 b1 K) x5 x6 x7 x8 x9 x10 s0 m K) := by
  unfold M_equalize_143
  repeat' (first | exact D2_K _ _ | exact hL32 _ _ | exact dt_M_equalize_168 hL32 _ _ _ _ _ _ _ _ _ | refine bind22 (dt_M_equalize_168 hL32 _ _ _ _ _ _ _ _ _) (fun _ _ => ?_) | refine D2_ite (fun _ => ?_) (fun _ => ?_) | refine D2_ite2 (fun _ => ?_) (fun _ => ?_) | refine D2_ex (fun _ => ?_) | refine D2_and ?_)
theorem dt_M_equalize_125 {LL32 : Int → Ob → (Int → Ob → Prop) → Prop} (hL32 : ∀ (b0 : Int) (b1 : Ob), D2 (fun K => LL32 b0 b1 K)) (x5 : Int) (x6 : Int) (x7 : Int) (x8 : Int) (x9 : Int) (s0 : Int) (m : Ob) : D2 (fun K => M_equalize_125 (fun b0 b1 => LL32 b0 b1 K) x5 x6 x7 x8 x9 s0 m K) := by
  unfold M_equalize_125
  repeat' (first | exact D2_K _ _ | exact hL32 _ _ | exact dt_M_equalize_143 hL32 _ _ _ _ _ _ _ _ | refine bind22 (dt_M_equalize_143 hL32 _ _ _ _ _ _ _ _) (fun _ _ => ?_) | refine D2_ite (fun _ => ?_) (fun _ => ?_) | refine D2_ite2 (fun _ => ?_) (fun _ => ?_) | refine D2_ex (fun _ => ?_) | refine D2_and ?_)
theorem dt_M_equalize_32 : ∀ (n : Nat) (a0 : Int) (a1 : Ob), D2 (fun K => M_equalize_32 n a0 a1 K) := by
  intro n
  induction n with
  | zero => intro a0 a1; exact D2_F
  | succ n ih =>
    intro a0 a1
    unfold M_equalize_32
    repeat' (first | exact D2_K _ _ | exact ih _ _ | exact dt_wp_M_follow _ _ _ | refine bind12 (dt_wp_M_follow _ _ _) (fun _ => ?_) | exact dt_M_equalize_125 (fun _ _ => ih _ _) _ _ _ _ _ _ _ | refine bind22 (dt_M_equalize_125 (fun _ _ => ih _ _) _ _ _ _ _ _ _) (fun _ _ => ?_) | refine D2_ite (fun _ => ?_) (fun _ => ?_) | refine D2_ite2 (fun _ => ?_) (fun _ => ?_) | refine D2_ex (fun _ => ?_) | refine D2_and ?_)
theorem dt_wp_M_equalize (x1 : Int) (x2 : Int) (x3 : Int) (x4 : Int) (m : Ob) : D2 (fun K => wp_M_equalize x1 x2 x3 x4 m K) := by
  unfold wp_M_equalize
  repeat' (first | exact D2_K _ _ | exact dt_M_equalize_32 _ _ _ | refine bind22 (dt_M_equalize_32 _ _ _) (fun _ _ => ?_) | refine D2_ite (fun _ => ?_) (fun _ => ?_) | refine D2_ite2 (fun _ => ?_) (fun _ => ?_) | refine D2_ex (fun _ => ?_) | refine D2_and ?_)
theorem dt_M_symbolsOf_19 : ∀ (n : Nat) (a0 : Int) (a1 : Int) (a2 : Ob), D2 (fun K => M_symbolsOf_19 n a0 a1 a2 K) := by
  intro n
  induction n with
  | zero => intro a0 a1 a2; exact D2_F
  | succ n ih =>
    intro a0 a1 a2
    unfold M_symbolsOf_19
    repeat' (first | exact D2_K _ _ | exact ih _ _ _ | exact dt_wp_M_follow _ _ _ | refine bind12 (dt_wp_M_follow _ _ _) (fun _ => ?_) | exact dt_wp_M_pushAll _ _ _ _ | refine bind22 (dt_wp_M_pushAll _ _ _ _) (fun _ _ => ?_) | refine D2_ite (fun _ => ?_) (fun _ => ?_) | refine D2_ite2 (fun _ => ?_) (fun _ => ?_) | refine D2_ex (fun _ => ?_) | refine D2_and ?_)
theorem dt_wp_M_symbolsOf (x1 : Int) (x2 : Int) (m : Ob) : D2 (fun K => wp_M_symbolsOf x1 x2 m K) := by
  unfold wp_M_symbolsOf
  repeat' (first | exact D2_K _ _ | exact dt_M_symbolsOf_19 _ _ _ _ | refine bind22 (dt_M_symbolsOf_19 _ _ _ _) (fun _ _ => ?_) | refine D2_ite (fun _ => ?_) (fun _ => ?_) | refine D2_ite2 (fun _ => ?_) (fun _ => ?_) | refine D2_ex (fun _ => ?_) | refine D2_and ?_)
theorem dt_M_large_99 (x1 : Int) (m : Ob) : D2 (fun K => M_large_99 x1 m K) := by
  unfold M_large_99
  repeat' (first | exact D2_K _ _ | refine D2_ite (fun _ => ?_) (fun _ => ?_) | refine D2_ite2 (fun _ => ?_) (fun _ => ?_) | refine D2_ex (fun _ => ?_) | refine D2_and ?_)
theorem dt_M_large_65 : ∀ (n : Nat) (a0 : Int) (a1 : Int) (a2 : Ob), D2 (fun K => M_large_65 n a0 a1 a2 K) := by
  intro n
  induction n with
  | zero => intro a0 a1 a2; exact D2_F
  | succ n ih =>
    intro a0 a1 a2
    unfold M_large_65
    repeat' (first | exact D2_K _ _ | exact ih _ _ _ | exact dt_M_large_99 _ _ | refine bind22 (dt_M_large_99 _ _) (fun _ _ => ?_) | exact dt_wp_M_symbolsOf _ _ _ | refine bind22 (dt_wp_M_symbolsOf _ _ _) (fun _ _ => ?_) | refine D2_ite (fun _ => ?_) (fun _ => ?_) | refine D2_ite2 (fun _ => ?_) (fun _ => ?_) | refine D2_ex (fun _ => ?_) | refine D2_and ?_)
theorem dt_M_large_63 (x1 : Int) (m : Ob) : D2 (fun K => M_large_63 x1 m K) := by
  unfold M_large_63
  repeat' (first | exact D2_K _ _ | exact dt_M_large_65 _ _ _ _ | refine bind22 (dt_M_large_65 _ _ _ _) (fun _ _ => ?_) | refine D2_ite (fun _ => ?_) (fun _ => ?_) | refine D2_ite2 (fun _ => ?_) (fun _ => ?_) | refine D2_ex (fun _ => ?_) | refine D2_and ?_)
theorem dt_M_large_55 {LL4 : Int → Int → Ob → (Int → Ob → Prop) → Prop} (hL4 : ∀ (b0 : Int) (b1 : Int) (b2 : Ob), D2 (fun K => LL4 b0 b1 b2 K)) (x2 : Int) (s0 : Int) (s1 : Int) (m : Ob) : D2 (fun K => M_large_55 (fun b0 b1 b2 => LL4 b0 b1 b2 K) x2 s0 s1 m K) := by
  unfold M_large_55
  repeat' (first | exact D2_K _ _ | exact hL4 _ _ _ | refine D2_ite (fun _ => ?_) (fun _ => ?_) | refine D2_ite2 (fun _ => ?_) (fun _ => ?_) | refine D2_ex (fun _ => ?_) | refine D2_and ?_)
theorem dt_M_large_4 : ∀ (n : Nat) (a0 : Int) (a1 : Int) (a2 : Ob), D2 (fun K => M_large_4 n a0 a1 a2 K) := by
  intro n
  induction n with
  | zero => intro a0 a1 a2; exact D2_F
  | succ n ih =>
    intro a0 a1 a2
    unfold M_large_4
    repeat' (first | exact D2_K _ _ | exact ih _ _ _ | exact dt_M_large_63 _ _ | refine bind22 (dt_M_large_63 _ _) (fun _ _ => ?_) | exact dt_wp_M_symbolsOf _ _ _ | refine bind22 (dt_wp_M_symbolsOf _ _ _) (fun _ _ => ?_) | exact dt_M_large_55 (fun _ _ _ => ih _ _ _) _ _ _ _ | refine bind22 (dt_M_large_55 (fun _ _ _ => ih _ _ _) _ _ _ _) (fun _ _ => ?_) | refine D2_ite (fun _ => ?_) (fun _ => ?_) | refine D2_ite2 (fun _ => ?_) (fun _ => ?_) | refine D2_ex (fun _ => ?_) | refine D2_and ?_)
theorem dt_wp_M_large (m : Ob) : D2 (fun K => wp_M_large m K) := by
  unfold wp_M_large
  repeat' (first | exact D2_K _ _ | exact dt_M_large_4 _ _ _ _ | refine bind22 (dt_M_large_4 _ _ _ _) (fun _ _ => ?_) | refine D2_ite (fun _ => ?_) (fun _ => ?_) | refine D2_ite2 (fun _ => ?_) (fun _ => ?_) | refine D2_ex (fun _ => ?_) | refine D2_and ?_)
theorem dt_wp_M_resolve (x1 : Int) (x2 : Int) (m : Ob) : Dt (fun K => wp_M_resolve x1 x2 m K) := by
  unfold wp_M_resolve
  repeat' (first | exact Dt_K _ | exact dt_wp_M_clearFrame _ _ | refine bind11 (dt_wp_M_clearFrame _ _) (fun _ => ?_) | exact dt_wp_M_equalize _ _ _ _ _ | refine bind21 (dt_wp_M_equalize _ _ _ _ _) (fun _ _ => ?_) | exact dt_wp_M_prepend _ _ _ _ | refine bind11 (dt_wp_M_prepend _ _ _ _) (fun _ => ?_) | exact dt_wp_M_large _ | refine bind21 (dt_wp_M_large _) (fun _ _ => ?_) | exact dt_wp_M_end _ _ | refine bind11 (dt_wp_M_end _ _) (fun _ => ?_) | refine Dt_ite (fun _ => ?_) (fun _ => ?_) | refine Dt_ite2 (fun _ => ?_) (fun _ => ?_) | refine Dt_ex (fun _ => ?_) | refine Dt_and ?_)
theorem dt_M_forward_187 (x3 : Int) (x4 : Int) (m : Ob) : Dt (fun K => M_forward_187 x3 x4 m K) := by
  unfold M_forward_187
  repeat' (first | exact Dt_K _ | exact dt_wp_M_resolve _ _ _ | refine bind11 (dt_wp_M_resolve _ _ _) (fun _ => ?_) | refine Dt_ite (fun _ => ?_) (fun _ => ?_) | refine Dt_ite2 (fun _ => ?_) (fun _ => ?_) | refine Dt_ex (fun _ => ?_) | refine Dt_and ?_)
theorem dt_M_forward_112 (x1 : Int) (x2 : Int) (s0 : Int) (m : Ob) : Dt (fun K => M_forward_112 x1 x2 s0 m K) := by
  unfold M_forward_112
  repeat' (first | exact Dt_K _ | exact dt_wp_M_candidate _ _ _ _ | refine bind21 (dt_wp_M_candidate _ _ _ _) (fun _ _ => ?_) | exact dt_M_forward_187 _ _ _ | refine bind11 (dt_M_forward_187 _ _ _) (fun _ => ?_) | exact dt_wp_M_end _ _ | refine bind11 (dt_wp_M_end _ _) (fun _ => ?_) | refine Dt_ite (fun _ => ?_) (fun _ => ?_) | refine Dt_ite2 (fun _ => ?_) (fun _ => ?_) | refine Dt_ex (fun _ => ?_) | refine Dt_and ?_)
theorem dt_M_forward_74 (s0 : Int) (m : Ob) : Dt (fun K => M_forward_74 s0 m K) := by
  unfold M_forward_74
  repeat' (first | exact Dt_K _ | refine Dt_ite (fun _ => ?_) (fun _ => ?_) | refine Dt_ite2 (fun _ => ?_) (fun _ => ?_) | refine Dt_ex (fun _ => ?_) | refine Dt_and ?_)
theorem dt_wp_M_forward (m : Ob) : Dt (fun K => wp_M_forward m K) := by
  unfold wp_M_forward
  repeat' (first | exact Dt_K _ | exact dt_wp_M_isWordAlone _ _ _ | refine bind11 (dt_wp_M_isWordAlone _ _ _) (fun _ => ?_) | exact dt_wp_M_candidate _ _ _ _ | refine bind21 (dt_wp_M_candidate _ _ _ _) (fun _ _ => ?_) | exact dt_M_forward_112 _ _ _ _ | refine bind11 (dt_M_forward_112 _ _ _ _) (fun _ => ?_) | exact dt_M_forward_74 _ _ | refine bind11 (dt_M_forward_74 _ _) (fun _ => ?_) | refine Dt_ite (fun _ => ?_) (fun _ => ?_) | refine Dt_ite2 (fun _ => ?_) (fun _ => ?_) | refine Dt_ex (fun _ => ?_) | refine Dt_and ?_)
theorem dt_M_strip_49 {LL0 : Ob → (Ob → Prop) → Prop} (hL0 : ∀ (b0 : Ob), Dt (fun K => LL0 b0 K)) (m : Ob) : Dt (fun K => M_strip_49 (fun b0 => LL0 b0 K) m K) := by
  unfold M_strip_49
  repeat' (first | exact Dt_K _ | exact hL0 _ | refine Dt_ite (fun _ => ?_) (fun _ => ?_) | refine Dt_ite2 (fun _ => ?_) (fun _ => ?_) | refine Dt_ex (fun _ => ?_) | refine Dt_and ?_)
theorem dt_M_strip_0 : ∀ (n : Nat) (a0 : Ob), Dt (fun K => M_strip_0 n a0 K) := by
  intro n
  induction n with
  | zero => intro a0; exact Dt_F
  | succ n ih =>
    intro a0
    unfold M_strip_0
    repeat' (first | exact Dt_K _ | exact ih _ | exact dt_M_strip_49 (fun _ => ih _) _ | refine bind11 (dt_M_strip_49 (fun _ => ih _) _) (fun _ => ?_) | exact dt_wp_M_isWordAlone _ _ _ | refine bind11 (dt_wp_M_isWordAlone _ _ _) (fun _ => ?_) | refine Dt_ite (fun _ => ?_) (fun _ => ?_) | refine Dt_ite2 (fun _ => ?_) (fun _ => ?_) | refine Dt_ex (fun _ => ?_) | refine Dt_and ?_)
theorem dt_wp_M_strip (m : Ob) : Dt (fun K => wp_M_strip m K) := by
  unfold wp_M_strip
  repeat' (first | exact Dt_K _ | exact dt_M_strip_0 _ _ | refine bind11 (dt_M_strip_0 _ _) (fun _ => ?_) | refine Dt_ite (fun _ => ?_) (fun _ => ?_) | refine Dt_ite2 (fun _ => ?_) (fun _ => ?_) | refine Dt_ex (fun _ => ?_) | refine Dt_and ?_)
theorem dt_M_again_92 (x1 : Int) (m : Ob) : Dt (fun K => M_again_92 x1 m K) := by
  unfold M_again_92
  repeat' (first | exact Dt_K _ | exact dt_wp_M_strip _ | refine bind11 (dt_wp_M_strip _) (fun _ => ?_) | refine Dt_ite (fun _ => ?_) (fun _ => ?_) | refine Dt_ite2 (fun _ => ?_) (fun _ => ?_) | refine Dt_ex (fun _ => ?_) | refine Dt_and ?_)
theorem dt_M_again_6 : ∀ (n : Nat) (a0 : Int) (a1 : Int) (a2 : Ob), Dt (fun K => M_again_6 n a0 a1 a2 K) := by
  intro n
  induction n with
  | zero => intro a0 a1 a2; exact Dt_F
  | succ n ih =>
    intro a0 a1 a2
    unfold M_again_6
    repeat' (first | exact Dt_K _ | exact ih _ _ _ | exact dt_M_again_92 _ _ | refine bind11 (dt_M_again_92 _ _) (fun _ => ?_) | exact dt_wp_M_strip _ | refine bind11 (dt_wp_M_strip _) (fun _ => ?_) | exact dt_wp_M_clearFrame _ _ | refine bind11 (dt_wp_M_clearFrame _ _) (fun _ => ?_) | exact dt_wp_M_equalize _ _ _ _ _ | refine bind21 (dt_wp_M_equalize _ _ _ _ _) (fun _ _ => ?_) | exact dt_wp_M_prepend _ _ _ _ | refine bind11 (dt_wp_M_prepend _ _ _ _) (fun _ => ?_) | refine Dt_ite (fun _ => ?_) (fun _ => ?_) | refine Dt_ite2 (fun _ => ?_) (fun _ => ?_) | refine Dt_ex (fun _ => ?_) | refine Dt_and ?_)
theorem dt_wp_M_again (x1 : Int) (m : Ob) : Dt (fun K => wp_M_again x1 m K) := by
  unfold wp_M_again
  repeat' (first | exact Dt_K _ | exact dt_wp_M_begin _ | refine bind11 (dt_wp_M_begin _) (fun _ => ?_) | exact dt_M_again_6 _ _ _ _ | refine bind11 (dt_M_again_6 _ _ _ _) (fun _ => ?_) | refine Dt_ite (fun _ => ?_) (fun _ => ?_) | refine Dt_ite2 (fun _ => ?_) (fun _ => ?_) | refine Dt_ex (fun _ => ?_) | refine Dt_and ?_)
theorem dt_M_back_97 (x1 : Int) (x2 : Int) (s0 : Int) (m : Ob) : Dt (fun K => M_back_97 x1 x2 s0 m K) := by
  unfold M_back_97
  repeat' (first | exact Dt_K _ | exact dt_wp_M_resolve _ _ _ | refine bind11 (dt_wp_M_resolve _ _ _) (fun _ => ?_) | refine Dt_ite (fun _ => ?_) (fun _ => ?_) | refine Dt_ite2 (fun _ => ?_) (fun _ => ?_) | refine Dt_ex (fun _ => ?_) | refine Dt_and ?_)
theorem dt_wp_M_back (m : Ob) : Dt (fun K => wp_M_back m K) := by
  unfold wp_M_back
  repeat' (first | exact Dt_K _ | exact dt_wp_M_again _ _ | refine bind11 (dt_wp_M_again _ _) (fun _ => ?_) | exact dt_wp_M_candidate _ _ _ _ | refine bind21 (dt_wp_M_candidate _ _ _ _) (fun _ _ => ?_) | exact dt_M_back_97 _ _ _ _ | refine bind11 (dt_M_back_97 _ _ _ _) (fun _ => ?_) | refine Dt_ite (fun _ => ?_) (fun _ => ?_) | refine Dt_ite2 (fun _ => ?_) (fun _ => ?_) | refine Dt_ex (fun _ => ?_) | refine Dt_and ?_)
theorem dt_M_step_42 (m : Ob) : Dt (fun K => M_step_42 m K) := by
  unfold M_step_42
  repeat' (first | exact Dt_K _ | exact dt_wp_M_end _ _ | refine bind11 (dt_wp_M_end _ _) (fun _ => ?_) | refine Dt_ite (fun _ => ?_) (fun _ => ?_) | refine Dt_ite2 (fun _ => ?_) (fun _ => ?_) | refine Dt_ex (fun _ => ?_) | refine Dt_and ?_)
theorem dt_M_step_19 (m : Ob) : Dt (fun K => M_step_19 m K) := by
  unfold M_step_19
  repeat' (first | exact Dt_K _ | exact dt_M_step_42 _ | refine bind11 (dt_M_step_42 _) (fun _ => ?_) | refine Dt_ite (fun _ => ?_) (fun _ => ?_) | refine Dt_ite2 (fun _ => ?_) (fun _ => ?_) | refine Dt_ex (fun _ => ?_) | refine Dt_and ?_)
theorem dt_wp_M_step (m : Ob) : Dt (fun K => wp_M_step m K) := by
  unfold wp_M_step
  repeat' (first | exact Dt_K _ | exact dt_wp_M_back _ | refine bind11 (dt_wp_M_back _) (fun _ => ?_) | exact dt_M_step_19 _ | refine bind11 (dt_M_step_19 _) (fun _ => ?_) | exact dt_wp_M_forward _ | refine bind11 (dt_wp_M_forward _) (fun _ => ?_) | refine Dt_ite (fun _ => ?_) (fun _ => ?_) | refine Dt_ite2 (fun _ => ?_) (fun _ => ?_) | refine Dt_ex (fun _ => ?_) | refine Dt_and ?_)
