/-! equality: the reference's group, in two halves -/
theorem bT_N {c : Option (Int × St)} {K : Int → St → Option Res} {k : Int → St → Option Res} : bndT (bndN c K) k = bndN c (fun r γ => bndT (K r γ) k) := by cases c <;> rfl
theorem bT_T {c : Option Res} {K k : Int → St → Option Res} : bndT (bndT c K) k = bndT c (fun r γ => bndT (K r γ) k) := by
  match c with
  | none => rfl
  | some (.inl e, γ) => rfl
  | some (.inr r, γ) => rfl
theorem bT_C {c : Prop} {inst : Decidable c} {o : Option Res} {k : Int → St → Option Res} : bndT (@chk c Res inst o) k = @chk c Res inst (bndT o k) := by
  by_cases q : c
  · rw [chk_t q, chk_t q]
  · unfold chk; rw [if_neg q, if_neg q]; rfl
theorem bT_I {c : Prop} {inst : Decidable c} {a b : Option Res} {k : Int → St → Option Res} : bndT (@ite _ c inst a b) k = @ite _ c inst (bndT a k) (bndT b k) := by
  by_cases q : c
  · rw [if_pos q, if_pos q]
  · rw [if_neg q, if_neg q]
theorem bT_e {e : Int × Int} {γ : St} {k : Int → St → Option Res} : bndT (some (.inl e, γ)) k = some (.inl e, γ) := rfl
theorem bT_r {r : Int} {γ : St} {k : Int → St → Option Res} : bndT (some (.inr r, γ)) k = k r γ := rfl
def g236 (γ : St) (_ _ : Int) : Option Res := some (.inr 0, γ)
def g205 (γ : St) (x64 x65 : Int) : Option Res := bndN (f_M_take γ) fun _ γ67 => f_M_group_L212 g236 FU γ67 0 x64 x65 x64
def g170 (γ : St) (_ x69 : Int) : Option Res :=
  bndT (f_M_must γ 58) fun _ γ71 =>
  bndN (f_M_is γ71 6) fun r72 γ73 =>
  if r72 ≠ 0 then
  (g205 γ73 x69 r72)
  else
  (bndN (f_M_is γ73 5) fun r74 γ75 =>
  if r74 ≠ 0 then
  (g205 γ75 x69 r72)
  else
  (bndN (f_M_cant γ75) fun p76 γ77 => some (.inl (1, p76), γ77)))
/-- the names and their type -/
def grp0 (γ : St) : Option Res := f_M_group_L7 f_M_group_b18 f_M_group_b34 f_M_group_b66 g170 FU γ 0 (γ 0 19) 1
theorem g212_s {a x b : Int} : ∀ (n : Nat) (γ : St) (v : Int), f_M_group_L212 f_M_group_b236 n γ a x b v = bndT (f_M_group_L212 g236 n γ 0 x b v) (fun _ γ' => f_M_group_b236 γ' a x) := by
  intro n
  induction n with
  | zero => intro γ v; rfl
  | succ n ih =>
    intro γ v
    unfold f_M_group_L212
    simp only [bT_I, bT_C, ap, ih]
    rfl
theorem g205_s {a x b : Int} (γ : St) : f_M_group_b205 γ a x b = bndT (g205 γ x b) (fun _ γ' => f_M_group_b236 γ' a x) := by
  unfold f_M_group_b205 g205
  simp only [bT_N, g212_s]
theorem g170_s {a x : Int} (γ : St) (c : Int) : f_M_group_b170 γ a x = bndT (g170 γ c x) (fun _ γ' => f_M_group_b236 γ' a x) := by
  unfold f_M_group_b170 g170
  simp only [bT_N, bT_T, bT_I, g205_s, bT_e]
theorem g18_s {γ : St} {k : Int → St → Option Res} : bndT (f_M_group_b18 γ) k = f_M_group_b18 γ := by
  unfold f_M_group_b18
  simp only [bT_N, bT_e]
theorem g34_s {γ : St} {k : Int → St → Option Res} : bndT (f_M_group_b34 γ) k = f_M_group_b34 γ := rfl
theorem g66_s {γ : St} {k : Int → St → Option Res} : bndT (f_M_group_b66 γ) k = f_M_group_b66 γ := rfl
theorem gL7_s {a x : Int} : ∀ (n : Nat) (γ : St) (m : Int), f_M_group_L7 f_M_group_b18 f_M_group_b34 f_M_group_b66 f_M_group_b170 n γ a x m = bndT (f_M_group_L7 f_M_group_b18 f_M_group_b34 f_M_group_b66 g170 n γ 0 x m) (fun _ γ' => f_M_group_b236 γ' a x) := by
  intro n
  induction n with
  | zero => intro γ m; rfl
  | succ n ih =>
    intro γ m
    unfold f_M_group_L7 f_M_group_b158
    simp only [bT_I, bT_C, bT_N, ap, g18_s, g34_s, g66_s, ih, g170_s γ 0]
theorem grp_s {a : Int} (γ : St) : f_M_group γ a = bndT (grp0 γ) (fun _ γ' => f_M_group_b236 γ' a (γ 0 19)) := by
  unfold f_M_group grp0
  exact gL7_s FU γ 1
