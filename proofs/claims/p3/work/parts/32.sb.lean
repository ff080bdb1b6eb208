/-! a program's cells as one state of whole numbers; stretches of code as answers of functions over it -/
def iI (z : Int) : Int32 := Int32.ofInt z
def iL (z : Int) : Int64 := Int64.ofInt z
abbrev i32 (z : Int) : Prop := -2147483648 ≤ z ∧ z ≤ 2147483647
abbrev inb (i n : Int) : Prop := 0 ≤ i ∧ i < n
theorem iI_toInt {z : Int} (h : i32 z) : (iI z).toInt = z := Int32.toInt_ofInt_of_le (by omega) (by omega)
theorem iI_lt {x y : Int} (hx : i32 x) (hy : i32 y) : iI x < iI y ↔ x < y := by rw [Int32.lt_iff_toInt_lt, iI_toInt hx, iI_toInt hy]
theorem iI_le {x y : Int} (hx : i32 x) (hy : i32 y) : iI x ≤ iI y ↔ x ≤ y := by rw [Int32.le_iff_toInt_le, iI_toInt hx, iI_toInt hy]
theorem iI_eq {x y : Int} (hx : i32 x) (hy : i32 y) : iI x = iI y ↔ x = y := by rw [← Int32.toInt_inj, iI_toInt hx, iI_toInt hy]
theorem iI_clamp {z : Int} (h : 0 ≤ z ∧ z ≤ 2147483647) : ((iI z).toNatClampNeg : Int) = z := by
  show (((iI z).toInt.toNat : Nat) : Int) = z
  rw [iI_toInt (by omega)]
  omega
theorem iI_in {z : Int} {n : Nat} (h : inb z n) (hn : n < 2 ^ 31) : vp_in (iI z) n := by
  rw [vp_in_iff, iI_toInt (by omega)]
  omega
/-- the int of 32 bits that stands for a whole number -/
def wr (z : Int) : Int := (iI z).toInt
theorem iI_wr (z : Int) : iI (wr z) = iI z := Int32.ofInt_toInt (iI z)
theorem i32_of (x : Int32) : i32 x.toInt := ⟨Int32.le_toInt x, by have := Int32.toInt_lt x; omega⟩
theorem wr_b (z : Int) : i32 (wr z) := i32_of _
theorem wr_id {z : Int} (h : i32 z) : wr z = z := iI_toInt h
theorem iI_of (x : Int32) : iI x.toInt = x := Int32.ofInt_toInt x
/-- a state: the number of an object or array, the number of a field or place -/
abbrev St : Type := Nat → Int → Int
def setA (γ : St) (j : Nat) (i v : Int) : St := fun g k => if g = j ∧ k = i then v else γ g k
theorem setA_o {γ : St} {j : Nat} {i v : Int} {g : Nat} (h : g ≠ j) : setA γ j i v g = γ g := by
  funext k
  simp [setA, h]
theorem setA_s {γ : St} {j : Nat} {i v : Int} : setA γ j i v j i = v := by simp [setA]
theorem setA_n {γ : St} {j : Nat} {i v : Int} {g : Nat} {k : Int} (h : g ≠ j ∨ k ≠ i) : setA γ j i v g k = γ g k := by
  unfold setA
  rw [if_neg]
  rintro ⟨a, b⟩
  rcases h with h | h
  · exact h a
  · exact h b
def chk (c : Prop) {ζ : Type} [Decidable c] (o : Option ζ) : Option ζ := if c then o else none
theorem chk_t {c : Prop} {ζ : Type} {inst : Decidable c} {o : Option ζ} (h : c) : @chk c ζ inst o = o := if_pos h
theorem chk_e {c : Prop} {ζ : Type} [Decidable c] {o : Option ζ} {z : ζ} (h : chk c o = some z) : c ∧ o = some z := by
  unfold chk at h
  by_cases hc : c
  · rw [if_pos hc] at h; exact ⟨hc, h⟩
  · rw [if_neg hc] at h; cases h
/-- what a method that may throw leaves: kind and place of what it throws, or its answer; and the state -/
abbrev Res : Type := ((Int × Int) ⊕ Int) × St
def bndN {ζ : Type} (o : Option (Int × St)) (k : Int → St → Option ζ) : Option ζ := match o with
  | none => none
  | some z => k z.1 z.2
def bndT (o : Option Res) (k : Int → St → Option Res) : Option Res := match o with
  | none => none
  | some (.inl e, γ) => some (.inl e, γ)
  | some (.inr r, γ) => k r γ
theorem bndN_s {ζ : Type} {r : Int} {γ : St} {k : Int → St → Option ζ} : bndN (some (r, γ)) k = k r γ := rfl
theorem bndT_s {r : Int} {γ : St} {k : Int → St → Option Res} : bndT (some (.inr r, γ)) k = k r γ := rfl
theorem bndT_x {e : Int × Int} {γ : St} {k : Int → St → Option Res} : bndT (some (.inl e, γ)) k = some (.inl e, γ) := rfl
/-- what a program's cells are: arrays (type, length) and objects (class, of each field 0 or 1 more than the object that it refers to) -/
abbrev Tb : Type := List ((Nat × Nat) ⊕ (Nat × List Nat))
abbrev Ctx : Type := Launch × va_G × (ClassId × ClassId × ClassId × ClassId) × (Nat → Nat × Nat) × (Nat → Nat)
abbrev Ctx.l (Γ : Ctx) : Launch := Γ.1
abbrev Ctx.D (Γ : Ctx) : va_G := Γ.2.1
abbrev Ctx.c (Γ : Ctx) : ClassId × ClassId × ClassId × ClassId := Γ.2.2.1
abbrev Ctx.σ (Γ : Ctx) : Nat → Nat × Nat := Γ.2.2.2.1
abbrev Ctx.a (Γ : Ctx) : Nat → Nat := Γ.2.2.2.2
abbrev Ctx.ty (Γ : Ctx) : List (ClassId × FieldType) := tyL Γ.c.1 Γ.c.2.1 Γ.c.2.2.1 Γ.c.2.2.2
def cT (Γ : Ctx) (t : Nat) : ClassId := if t = 0 then Γ.c.1 else if t = 1 then Γ.c.2.1 else if t = 2 then Γ.c.2.2.1 else Γ.c.2.2.2
def fvals (a : Nat → Nat) (f : Int → Int) : Nat → List Nat → List Value
  | _, [] => []
  | k, 0 :: ks => .int (iI (f k)) :: fvals a f (k + 1) ks
  | k, (r + 1) :: ks => .ref (a r) :: fvals a f (k + 1) ks
def ek (Γ : Ctx) (f : Int → Int) (x : (Nat × Nat) ⊕ (Nat × List Nat)) : va_E := match x with
  | .inl q => if q.1 = 2 then .inl (cT Γ 2, q.2, .inr (.inl (fun k : Nat => iL (f k)))) else .inl (cT Γ q.1, q.2, .inl (fun k : Nat => iI (f k)))
  | .inr q => .inr (q.1, fvals Γ.a f 0 q.2)
def wB (Γ : Ctx) (γ : St) : Nat → Tb → va_W
  | _, [] => []
  | j, x :: T => (Γ.a j, ek Γ (γ j) x) :: wB Γ γ (j + 1) T
theorem wB_get {Γ : Ctx} {γ : St} : ∀ {B : Tb} {n j : Nat} {x : (Nat × Nat) ⊕ (Nat × List Nat)}, B[j]? = some x → (wB Γ γ n B)[j]? = some (Γ.a (n + j), ek Γ (γ (n + j)) x) := by
  intro B
  induction B with
  | nil => intro n j x h; simp at h
  | cons y T ih =>
    intro n j x h
    cases j with
    | zero =>
      simp at h
      subst h
      rfl
    | succ j =>
      have h1 := ih (n := n + 1) (j := j) (x := x) (by simpa using h)
      show (wB Γ γ (n + 1) T)[j]? = _
      rw [h1, show n + 1 + j = n + (j + 1) by omega]
theorem wB_len {Γ : Ctx} {γ : St} : ∀ {B : Tb} {n : Nat}, (wB Γ γ n B).length = B.length := by
  intro B
  induction B with
  | nil => intro n; rfl
  | cons y T ih => intro n; show (wB Γ γ (n + 1) T).length + 1 = T.length + 1; rw [ih]
theorem wB_inv {Γ : Ctx} {γ : St} {B : Tb} {n j : Nat} {q : Nat × va_E} (h : (wB Γ γ n B)[j]? = some q) : ∃ x, B[j]? = some x ∧ q = (Γ.a (n + j), ek Γ (γ (n + j)) x) := by
  have hl := (List.getElem?_eq_some_iff.mp h).1
  rw [wB_len] at hl
  have hx : B[j]? = some B[j] := List.getElem?_eq_getElem hl
  exact ⟨_, hx, Option.some.inj (h.symm.trans (wB_get hx))⟩
theorem wB_set {Γ : Ctx} {γ γ' : St} {B : Tb} {j : Nat} {x : (Nat × Nat) ⊕ (Nat × List Nat)} {e : va_E} (hj : B[j]? = some x) (he : e = ek Γ (γ' j) x) (ho : ∀ g, g ≠ j → γ' g = γ g) : (wB Γ γ 0 B).set j (Γ.a j, e) = wB Γ γ' 0 B := by
  apply List.ext_getElem?
  intro i
  by_cases hi : i = j
  · subst hi
    have hl : i < (wB Γ γ 0 B).length := by rw [wB_len]; exact (List.getElem?_eq_some_iff.mp hj).1
    rw [List.getElem?_set_self hl, wB_get hj, he, Nat.zero_add]
  · rw [List.getElem?_set_ne (Ne.symm hi)]
    cases hx : B[i]? with
    | none =>
      have h1 : B.length ≤ i := List.getElem?_eq_none_iff.mp hx
      rw [List.getElem?_eq_none_iff.mpr (by rw [wB_len]; exact h1), List.getElem?_eq_none_iff.mpr (by rw [wB_len]; exact h1)]
    | some y => rw [wB_get hx, wB_get hx, Nat.zero_add, ho i hi]
theorem fvals_get {a : Nat → Nat} {f : Int → Int} : ∀ {ks : List Nat} {n k r : Nat}, ks[k]? = some r → (fvals a f n ks)[k]? = some (match r with | 0 => .int (iI (f ((n + k : Nat) : Int))) | r + 1 => .ref (a r)) := by
  intro ks
  induction ks with
  | nil => intro n k r h; simp at h
  | cons y T ih =>
    intro n k r h
    have e1 : ∀ m, (fvals a f n (y :: T))[m + 1]? = (fvals a f (n + 1) T)[m]? := fun m => by cases y <;> rfl
    cases k with
    | zero =>
      simp at h
      subst h
      cases y <;> rfl
    | succ k =>
      rw [e1, ih (n := n + 1) (k := k) (r := r) (by simpa using h), show n + 1 + k = n + (k + 1) by omega]
theorem fvals_len {a : Nat → Nat} {f : Int → Int} : ∀ {ks : List Nat} {n : Nat}, (fvals a f n ks).length = ks.length := by
  intro ks
  induction ks with
  | nil => intro n; rfl
  | cons y T ih => intro n; cases y <;> (show (fvals a f (n + 1) T).length + 1 = T.length + 1; rw [ih])
theorem fvals_set {a : Nat → Nat} {f f' : Int → Int} {v : Int} {ks : List Nat} {k : Nat} (hk : ks[k]? = some 0) (hv : f' k = v) (ho : ∀ m : Int, m ≠ k → f' m = f m) : (fvals a f 0 ks).set k (.int (iI v)) = fvals a f' 0 ks := by
  apply List.ext_getElem?
  intro i
  by_cases hi : i = k
  · subst hi
    have hl : i < (fvals a f 0 ks).length := by rw [fvals_len]; exact (List.getElem?_eq_some_iff.mp hk).1
    rw [List.getElem?_set_self hl, fvals_get hk]
    simp [hv]
  · rw [List.getElem?_set_ne (Ne.symm hi)]
    cases hx : ks[i]? with
    | none =>
      have h1 : ks.length ≤ i := List.getElem?_eq_none_iff.mp hx
      rw [List.getElem?_eq_none_iff.mpr (by rw [fvals_len]; exact h1), List.getElem?_eq_none_iff.mpr (by rw [fvals_len]; exact h1)]
    | some y =>
      rw [fvals_get hx, fvals_get hx]
      cases y with
      | zero =>
        have h2 := ho ((0 + i : Nat) : Int) (by omega)
        simp only [h2]
      | succ r => rfl
/-- all ints are of 32 bits -/
def lgB (B : Tb) (j : Nat) : Bool := match B[j]? with
  | some (.inl q) => q.1 == 2
  | _ => false
def WB (B : Tb) (γ : St) : Prop := ∀ j i, lgB B j = false → i32 (γ j i)
theorem WB.set {B : Tb} {γ : St} (h : WB B γ) {j : Nat} {i v : Int} (hv : i32 v) : WB B (setA γ j i v) := fun g k hg => by
  unfold setA
  by_cases c : g = j ∧ k = i
  · rw [if_pos c]; exact hv
  · rw [if_neg c]; exact h g k hg
theorem WB.setL {B : Tb} {γ : St} (h : WB B γ) {j : Nat} {i v : Int} (hv : lgB B j = true) : WB B (setA γ j i v) := fun g k hg => by
  rw [setA_n (Or.inl (fun e => by subst e; rw [hv] at hg; cases hg))]
  exact h g k hg
def adB (Γ : Ctx) (B : Tb) (q : Nat) : Prop := ∃ j, j < B.length ∧ q = Γ.a j
def mA (Γ : Ctx) (B : Tb) (sz : Nat) : Nat → Prop := fun q => adB Γ B q ∨ sz ≤ q
def apB (Γ : Ctx) (B : Tb) : Prop := ∀ i j, i < B.length → j < B.length → Γ.a i = Γ.a j → i = j
theorem wB_D {Γ : Ctx} {B : Tb} (h : apB Γ B) (γ : St) {sz : Nat} : va_D (mA Γ B sz) (wB Γ γ 0 B) := by
  refine ⟨fun i j p q hi hj e => ?_, fun k q hk => ?_⟩
  · obtain ⟨x, hx, rfl⟩ := wB_inv hi
    obtain ⟨y, hy, rfl⟩ := wB_inv hj
    simp only [Nat.zero_add] at e
    exact h i j (List.getElem?_eq_some_iff.mp hx).1 (List.getElem?_eq_some_iff.mp hy).1 e
  · obtain ⟨x, hx, rfl⟩ := wB_inv hk
    exact Or.inl ⟨k, (List.getElem?_eq_some_iff.mp hx).1, by simp⟩
theorem wB_lt {Γ : Ctx} {B : Tb} {γ : St} {H : Heap} (hP : va_P Γ.D kl (wB Γ γ 0 B) H) {q : Nat} (h : adB Γ B q) : q < H.size := by
  obtain ⟨j, hj, rfl⟩ := h
  have h1 := hP j _ (wB_get (List.getElem?_eq_getElem hj))
  rw [Nat.zero_add] at h1
  exact h1.lt
theorem wB_ns {Γ : Ctx} {B : Tb} {γ : St} {H : Heap} (hP : va_P Γ.D kl (wB Γ γ 0 B) H) : ∀ q, adB Γ B q → ∀ cell, H[q]? = some cell → cell.vm.isStatics = false := by
  rintro q ⟨j, hj, rfl⟩ cell hc
  have h1 := hP j _ (wB_get (List.getElem?_eq_getElem hj))
  rw [Nat.zero_add] at h1
  cases hx : B[j] with
  | inl w =>
    rw [hx] at h1
    have h2 : va_at Γ.D kl (Γ.a j, if w.1 = 2 then .inl (cT Γ 2, w.2, .inr (.inl (fun k : Nat => iL (γ j k)))) else .inl (cT Γ w.1, w.2, .inl (fun k : Nat => iI (γ j k)))) H := h1
    by_cases c : w.1 = 2
    · rw [if_pos c] at h2
      have h3 : H[Γ.a j]? = some (vp_cell _ _) := h2
      rw [hc] at h3
      cases h3
      rfl
    · rw [if_neg c] at h2
      have h3 : H[Γ.a j]? = some (vp_cell _ _) := h2
      rw [hc] at h3
      cases h3
      rfl
  | inr w =>
    rw [hx] at h1
    obtain ⟨r, h2, ce, h3, h4, h5, -⟩ := h1
    have h3 : H[Γ.a j]? = some ce := h3
    rw [hc] at h3
    cases h3
    rw [h5]
    rfl
theorem wB_kept {Γ : Ctx} {B : Tb} {γ : St} {H H1 : Heap} (hP : va_P Γ.D kl (wB Γ γ 0 B) H) (h : ∀ q, adB Γ B q → H1[q]? = H[q]?) : va_P Γ.D kl (wB Γ γ 0 B) H1 := hP.kept (fun k q hk => by
  obtain ⟨x, hx, rfl⟩ := wB_inv hk
  exact h _ ⟨k, (List.getElem?_eq_some_iff.mp hx).1, by simp⟩)
/-- the keywords, by number -/
def kwTx : List String := ["node", "returns", "var", "let", "tel", "int", "bool", "when", "not", "and", "or", "xor", "if", "then", "else", "pre", "current", "fby", "div", "mod", "true", "false"]
def kwBs (k : Nat) : List Int32 := ((kwTx.getD k "").toList.map (fun ch => Int32.ofNat ch.toNat))
def kwCh (k : Nat) : Nat → Int32 := fun j => (kwBs k).getD j 0
/-- exceptions that aren't each other's -/
def xn_P (U : State) : Prop := va_Nc "java/lang/IllegalStateException" "java/lang/IllegalArgumentException" U ∧ va_Nc "java/lang/IllegalStateException" "java/util/NoSuchElementException" U ∧ va_Nc "java/lang/IllegalArgumentException" "java/util/NoSuchElementException" U
/-- words of the tables that are no good words: a native method, long constants, links to private methods of the nest -/
def mN (U : State) : Prop := va_Nw (.native arraycopyName) U ∧ va_Nw (.constantLong "StreamNodes$Program" 148 1099511627776) U ∧ va_Nw (.constantLong "StreamNodesModel" 557 1099511627776) U ∧ va_Nw (.methodLinkNest "StreamNodes$ExpressionReader" 147 ⟨"StreamNodes", "nesting", "(I)I"⟩ "StreamNodes") U ∧ va_Nw (.methodLinkNest "StreamNodes$ExpressionReader" 154 ⟨"StreamNodes", "rank", "(I)I"⟩ "StreamNodes") U ∧ va_Nw (.methodLinkNest "StreamNodes$Checker" 125 ⟨"StreamNodes", "rank", "(I)I"⟩ "StreamNodes") U ∧ xn_P U
theorem nw_nat {y : MethodName} {s U : State} (hW : s.WarmedH U.vm) (h : va_Nw (.native y) s) : va_Nw (.native y) U := va_tabs rfl (rfl : (s.setVm U.vm).vm = U.vm) (by rw [Cond.native_setVm hW.alike]; exact h)
theorem nw_lng {C : String} {i : Nat} {v : Int64} {s U : State} (hW : s.WarmedH U.vm) (h : va_Nw (.constantLong C i v) s) : va_Nw (.constantLong C i v) U := va_tabs rfl (rfl : (s.setVm U.vm).vm = U.vm) (by rw [Cond.constantLong_setVm hW.alike]; exact h)
theorem mN.moved {u U : State} (hW : u.WarmedH U.vm) (h : mN u) : mN U := ⟨nw_nat hW h.1, nw_lng hW h.2.1, nw_lng hW h.2.2.1, h.2.2.2.1.warmM hW, h.2.2.2.2.1.warmM hW, h.2.2.2.2.2.1.warmM hW, h.2.2.2.2.2.2.1.moved hW.alike, h.2.2.2.2.2.2.2.1.moved hW.alike, h.2.2.2.2.2.2.2.2.moved hW.alike⟩
theorem mN.same {u U : State} (e : u.vm = U.vm) (h : mN u) : mN U := ⟨va_Nw.same rfl e h.1, va_Nw.same rfl e h.2.1, va_Nw.same rfl e h.2.2.1, va_Nw.same rfl e h.2.2.2.1, va_Nw.same rfl e h.2.2.2.2.1, va_Nw.same rfl e h.2.2.2.2.2.1, h.2.2.2.2.2.2.1.moved (e ▸ Vm.Alike.refl u.vm), h.2.2.2.2.2.2.2.1.moved (e ▸ Vm.Alike.refl u.vm), h.2.2.2.2.2.2.2.2.moved (e ▸ Vm.Alike.refl u.vm)⟩
/-- what methods find in the machine beside the cells: Throwable's statics, String's, the keywords at σ, those words -/
def mE (σ : Nat → Nat × Nat) (A : Nat → Prop) (U : State) (H : Heap) : Prop := xs_P A U H ∧ sg_E A U H ∧ (∀ k, k < 22 → vk_R R_M (321 + 2 * k) (kwTx.getD k "") (σ k).1 U ∧ sg_S (σ k).1 (σ k).2 (kwBs k).length (kwCh k) A U H) ∧ mN U
theorem mE.moved {σ : Nat → Nat × Nat} {A : Nat → Prop} {u U : State} {H : Heap} (hW : u.WarmedH U.vm) (h : mE σ A u H) : mE σ A U H := ⟨h.1.moved hW, h.2.1.moved hW.alike, fun k hk => ⟨(h.2.2.1 k hk).1.warm hW, (h.2.2.1 k hk).2.moved hW.alike⟩, h.2.2.2.moved hW⟩
theorem mE.kept {σ : Nat → Nat × Nat} {A : Nat → Prop} {U : State} {H H1 : Heap} (h : mE σ A U H) (hq : ∀ a : Nat, a < H.size → ¬ A a → H1[a]? = H[a]?) : mE σ A U H1 := ⟨h.1.kept hq, h.2.1.kept hq, fun k hk => ⟨(h.2.2.1 k hk).1, (h.2.2.1 k hk).2.kept hq⟩, h.2.2.2⟩
theorem mE.narrow {σ : Nat → Nat × Nat} {A B : Nat → Prop} {U : State} {H : Heap} (h : mE σ A U H) (hAB : ∀ q, B q → A q) : mE σ B U H := ⟨h.1.narrow hAB, h.2.1.narrow hAB, fun k hk => ⟨(h.2.2.1 k hk).1, (h.2.2.1 k hk).2.narrow hAB⟩, h.2.2.2⟩
theorem mE.call {σ : Nat → Nat × Nat} {A : Nat → Prop} {U : State} {g : JFrame} {mk : MethodId} {a : Array Value} (h : mE σ A U U.heap) : mE σ A (U.calling g mk a) (U.calling g mk a).heap := ⟨h.1.call, h.2.1.moved (U := U.calling g mk a) (Vm.Alike.refl U.vm), fun k hk => ⟨(h.2.2.1 k hk).1.same (u := U) rfl, (h.2.2.1 k hk).2.moved (U := U.calling g mk a) (Vm.Alike.refl U.vm)⟩, h.2.2.2.same (u := U) rfl⟩
/-- the start of a method -/
def mPre (Γ : Ctx) (B : Tb) (γ : St) (sz : Nat) (U : State) : Prop := U.heap.size = sz ∧ va_P Γ.D kl (wB Γ γ 0 B) U.heap ∧ va_K Γ.D kl Γ.ty U ∧ apB Γ B ∧ mE Γ.σ (mA Γ B sz) U U.heap
theorem mPre_blind {av : List Value} {Γ : Ctx} {B : Tb} {γ : St} {sz : Nat} : FrameBlind (va_Pc av (mPre Γ B γ sz)) := fun x U g mk q => ⟨q.1, q.2.1, q.2.2.1, va_K.moved (u := U) (U := U.calling g mk x) (Vm.Alike.refl U.vm) q.2.2.2.1, q.2.2.2.2.1, q.2.2.2.2.2.call⟩
/-- a method: its class, code, locals, type -/
abbrev MT : Type := String × ByteArray × Nat × Option FieldType
/-- the tables of handlers of those methods that have one, by a number -/
def tabL : List (List (Nat × Nat × Nat × Nat)) := [[(102, 272, 275, 296)], [(0, 16, 19, 13)], [(0, 9, 12, 19)], [(0, 10, 13, 25), (0, 10, 17, 19)], [(0, 9, 12, 19), (0, 9, 15, 13)], [(0, 8, 11, 25), (0, 8, 14, 13)], [(0, 10, 13, 25), (0, 10, 17, 19)], [(0, 17, 20, 25)], [(0, 8, 11, 13)], [(0, 4, 7, 13)], [(0, 8, 11, 13)]]
def tabR (n : Nat) : List (Nat × Nat × Nat × Nat) := tabL.getD (n - 9) []
/-- what a walk stands on -/
def CX (Γ : Ctx) (B : Tb) (mt : MT) (R : Room) (p : Program) (s : State) (m : MethodId) (args : Array Value) (meth : Method) (c : Code) : Prop :=
  p.tables.exec = Jvm.exec ∧ c.code = mt.2.1 ∧ c.maxLocals = mt.2.2.1 ∧ s.vm.findClass mt.1 = some m.cls ∧ (∀ w ∈ gG, w.before args s = true) ∧ va_K Γ.D kl Γ.ty s ∧ apB Γ B ∧ mE Γ.σ (mA Γ B s.heap.size) s s.heap ∧ meth.sig.returnType = mt.2.2.2 ∧ meth.locks = false ∧ (R.slots < 9 → c.exceptionTable.isEmpty = true) ∧ (9 ≤ R.slots → c.exceptionTable.toList.map (fun h => (h.startPc, h.endPc, h.handlerPc, h.catchType)) = tabR R.slots) ∧ ∀ q, adB Γ B q → ∀ cell, s.heap[q]? = some cell → cell.vm.isStatics = false
section CX
variable {Γ : Ctx} {B : Tb} {mt : MT} {R : Room} {p : Program} {s : State} {m : MethodId} {args : Array Value} {meth : Method} {c : Code}
theorem CX.x (X : CX Γ B mt R p s m args meth c) : p.tables.exec = Jvm.exec := X.1
theorem CX.b (X : CX Γ B mt R p s m args meth c) : c.code = mt.2.1 := X.2.1
theorem CX.ml (X : CX Γ B mt R p s m args meth c) : c.maxLocals = mt.2.2.1 := X.2.2.1
theorem CX.own (X : CX Γ B mt R p s m args meth c) : s.vm.findClass mt.1 = some m.cls := X.2.2.2.1
theorem CX.G (X : CX Γ B mt R p s m args meth c) : ∀ w ∈ gG, w.before args s = true := X.2.2.2.2.1
theorem CX.K (X : CX Γ B mt R p s m args meth c) : va_K Γ.D kl Γ.ty s := X.2.2.2.2.2.1
theorem CX.ap (X : CX Γ B mt R p s m args meth c) : apB Γ B := X.2.2.2.2.2.2.1
theorem CX.E (X : CX Γ B mt R p s m args meth c) : mE Γ.σ (mA Γ B s.heap.size) s s.heap := X.2.2.2.2.2.2.2.1
theorem CX.rt (X : CX Γ B mt R p s m args meth c) : meth.sig.returnType = mt.2.2.2 := X.2.2.2.2.2.2.2.2.1
theorem CX.lk (X : CX Γ B mt R p s m args meth c) : meth.locks = false := X.2.2.2.2.2.2.2.2.2.1
theorem CX.nt (X : CX Γ B mt R p s m args meth c) (h : R.slots < 9) : c.exceptionTable.isEmpty = true := X.2.2.2.2.2.2.2.2.2.2.1 h
theorem CX.hd (X : CX Γ B mt R p s m args meth c) (h : 9 ≤ R.slots) : c.exceptionTable.toList.map (fun h => (h.startPc, h.endPc, h.handlerPc, h.catchType)) = tabR R.slots := X.2.2.2.2.2.2.2.2.2.2.2.1 h
theorem CX.ns (X : CX Γ B mt R p s m args meth c) : ∀ q, adB Γ B q → ∀ cell, s.heap[q]? = some cell → cell.vm.isStatics = false := X.2.2.2.2.2.2.2.2.2.2.2.2
theorem CX.fr (X : CX Γ B mt R p s m args meth c) {H : Heap} {locs : List Loc} (hS : va_S (mA Γ B s.heap.size) s.heap H locs) : ∀ q, mA Γ B H.size q → mA Γ B s.heap.size q := fun q h => h.elim Or.inl (fun z => Or.inr (Nat.le_trans hS.1 z))
end CX
