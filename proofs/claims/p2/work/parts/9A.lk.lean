/-! the class's linker: what stands while nodes are put in -/
def FrLk (γ0 γ : St) : Prop := ∀ j k, (j < 8 ∨ 10 ≤ j ∧ j < 54 ∨ 68 < j) → γ j k = γ0 j k
theorem FrLk.set {γ0 γ : St} {j : Nat} {i v : Int} (h : FrLk γ0 γ) (hj : j = 8 ∨ j = 9 ∨ 54 ≤ j ∧ j ≤ 68) : FrLk γ0 (setA γ j i v) := fun a k q => by rw [stA, if_neg (by omega)]; exact h a k q
def enF (γ0 γ : St) (f : Int) : Int := γ0 29 (γ 63 f) + γ0 30 (γ 63 f)
def dF (γ0 γ : St) (f : Int) : Int := if γ 66 f < enF γ0 γ f then (if γ 67 f = γ0 44 (γ 66 f) then γ0 46 (γ 66 f) else Pf γ0 (γ 67 f) - γ 66 f) else 0
def rF (γ0 γ : St) (f : Int) : Int := sm (cpF γ0) (γ 67 f) (γ0 44 (enF γ0 γ f - 1)) + (enF γ0 γ f - γ 66 f)
def wF (γ0 γ : St) (f : Int) : Int := sm (cvF γ0) (γ 67 f) (γ0 44 (enF γ0 γ f - 1))
/-- an open node -/
def LkF (γ0 : St) (m : Int) (γ : St) (f : Int) : Prop := (0 ≤ γ 63 f ∧ γ 63 f ≤ m - f) ∧ (0 ≤ γ 64 f ∧ γ 64 f + γ0 28 (γ 63 f) ≤ γ 9 11) ∧ (0 ≤ γ 65 f ∧ γ 65 f ≤ 2 * γ 9 11) ∧ (γ0 29 (γ 63 f) ≤ γ 66 f ∧ γ 66 f ≤ enF γ0 γ f) ∧ (γ 66 f < enF γ0 γ f → γ0 43 (γ 66 f) ≤ γ 67 f ∧ γ 67 f ≤ γ0 44 (γ 66 f)) ∧ (γ 66 f = enF γ0 γ f → γ 67 f = γ0 44 (enF γ0 γ f - 1)) ∧ (γ0 31 (γ 63 f) ≤ 3000 ∧ γ0 32 (γ 63 f) ≤ 6000)
def LkS (γ0 : St) (m : Int) (γ : St) : Prop := (0 ≤ γ 9 8 ∧ γ 9 8 ≤ m + 1) ∧ γ 9 10 = sm (dF γ0 γ) 0 (γ 9 8) ∧ γ 9 11 + sm (wF γ0 γ) 0 (γ 9 8) = γ0 32 m ∧ γ 8 5 + sm (rF γ0 γ) 0 (γ 9 8) ≤ γ0 32 m + 1 + γ0 31 m ∧ γ 9 10 + sm (rF γ0 γ) 0 (γ 9 8) + (γ0 32 m - γ 9 11) ≤ 9000 ∧ γ 8 11 + 2 * sm (rF γ0 γ) 0 (γ 9 8) ≤ 2 * γ0 31 m ∧ (0 ≤ γ 8 11 ∧ γ0 32 m + 1 ≤ γ 8 5 ∧ γ 8 8 = γ0 32 m ∧ γ 9 12 = γ0 32 m ∧ 0 ≤ γ 9 11)
/-- a slot -/
def SlI (V : Int) (γ : St) (s : Int) : Prop := (-1 ≤ γ 55 s ∧ γ 55 s < γ 8 5) ∧ (-1 ≤ γ 56 s ∧ γ 56 s < γ 8 5) ∧ (-1 ≤ γ 57 s ∧ γ 57 s < γ 8 5) ∧ (s < V → γ 54 s = 2 ∧ 0 ≤ γ 59 s ∧ γ 59 s ≤ 2 * V) ∧ (s = V → γ 54 s = 3) ∧ ((γ 54 s = 18 ∨ γ 54 s = 35 ∨ γ 54 s = 36) → 0 ≤ γ 58 s ∧ γ 58 s < γ 8 11) ∧ (γ 54 s = 37 → 0 ≤ γ 58 s ∧ γ 58 s + 1 < γ 8 11) ∧ (V ≤ s → γ 55 s < s ∧ γ 56 s < s ∧ γ 57 s < s)
theorem SlI.up {V : Int} {γ γ' : St} {s : Int} (h : SlI V γ s) (e : ∀ j, 54 ≤ j → j ≤ 59 → γ' j s = γ j s) (m5 : γ 8 5 ≤ γ' 8 5) (m11 : γ 8 11 ≤ γ' 8 11) : SlI V γ' s := by
  have ⟨a1, a2, a3, a4, a5, a6, a7, a8⟩ := h
  have e54 := e 54 (by omega) (by omega)
  have e55 := e 55 (by omega) (by omega)
  have e56 := e 56 (by omega) (by omega)
  have e57 := e 57 (by omega) (by omega)
  have e58 := e 58 (by omega) (by omega)
  have e59 := e 59 (by omega) (by omega)
  refine ⟨by omega, by omega, by omega, fun q => ?_, fun q => ?_, fun q => ?_, fun q => ?_, fun q => ?_⟩
  · have := a4 q; omega
  · have := a5 q; omega
  · have := a6 (by omega); omega
  · have := a7 (by omega); omega
  · have := a8 q; omega
def LkV (V : Int) (γ : St) : Prop := (∀ i, 0 ≤ i → i < γ 9 10 → 0 ≤ γ 68 i ∧ γ 68 i < γ 8 5) ∧ (∀ s, (0 ≤ s ∧ s < γ 9 11 ∨ V ≤ s ∧ s < γ 8 5) → SlI V γ s) ∧ (∀ i, 0 ≤ i → i < γ 8 11 → (0 ≤ γ 61 i ∧ γ 61 i < γ 8 5) ∧ 0 ≤ γ 62 i ∧ γ 62 i ≤ 2 * V)
theorem LkV.up {V : Int} {γ γ' : St} (h : LkV V γ) (m5 : γ 8 5 ≤ γ' 8 5) (m11 : γ 8 11 ≤ γ' 8 11) (est : ∀ i, 0 ≤ i → i < γ' 9 10 → (i < γ 9 10 ∧ γ' 68 i = γ 68 i) ∨ 0 ≤ γ' 68 i ∧ γ' 68 i < γ' 8 5) (es : ∀ s, (0 ≤ s ∧ s < γ' 9 11 ∨ V ≤ s ∧ s < γ' 8 5) → ((0 ≤ s ∧ s < γ 9 11 ∨ V ≤ s ∧ s < γ 8 5) ∧ ∀ j, 54 ≤ j → j ≤ 59 → γ' j s = γ j s) ∨ SlI V γ' s) (ec : ∀ i, 0 ≤ i → i < γ' 8 11 → (i < γ 8 11 ∧ γ' 61 i = γ 61 i ∧ γ' 62 i = γ 62 i) ∨ (0 ≤ γ' 61 i ∧ γ' 61 i < γ' 8 5) ∧ 0 ≤ γ' 62 i ∧ γ' 62 i ≤ 2 * V) : LkV V γ' := by
  have ⟨a1, a2, a3⟩ := h
  refine ⟨fun i q1 q2 => ?_, fun s q => ?_, fun i q1 q2 => ?_⟩
  · rcases est i q1 q2 with p | p
    · have := a1 i q1 p.1; omega
    · exact p
  · rcases es s q with p | p
    · exact (a2 s p.1).up p.2 m5 m11
    · exact p
  · rcases ec i q1 q2 with p | p
    · have := a3 i q1 p.1; omega
    · exact p
def LkI (γ0 : St) (m : Int) (γ : St) : Prop := FrLk γ0 γ ∧ (∀ f, 0 ≤ f → f < γ 9 8 → LkF γ0 m γ f) ∧ LkS γ0 m γ ∧ LkV (γ0 32 m) γ
/-- sums over frames, where the last frame alone changes -/
theorem sm_last {f g : Int → Int} {n : Int} (h : 0 < n) (e : ∀ i, 0 ≤ i → i < n - 1 → f i = g i) : sm f 0 n = sm g 0 n - g (n - 1) + f (n - 1) := by
  have a := sm_succ (f := f) (a := 0) (b := n - 1) (by omega)
  have b := sm_succ (f := g) (a := 0) (b := n - 1) (by omega)
  rw [show n - 1 + 1 = n by omega] at a b
  have c := sm_ext (f := f) (g := g) (a := 0) (b := n - 1) e
  omega
theorem fF_ext {γ0 γ γ' : St} {f : Int} (e : ∀ j, 63 ≤ j → j ≤ 67 → γ' j f = γ j f) : enF γ0 γ' f = enF γ0 γ f ∧ dF γ0 γ' f = dF γ0 γ f ∧ rF γ0 γ' f = rF γ0 γ f ∧ wF γ0 γ' f = wF γ0 γ f := by
  have a : enF γ0 γ' f = enF γ0 γ f := by unfold enF; rw [e 63 (by omega) (by omega)]
  refine ⟨a, ?_, ?_, ?_⟩
  · unfold dF; rw [a, e 66 (by omega) (by omega), e 67 (by omega) (by omega)]
  · unfold rF; rw [a, e 66 (by omega) (by omega), e 67 (by omega) (by omega)]
  · unfold wF; rw [a, e 67 (by omega) (by omega)]
theorem LkF.up {γ0 γ γ' : St} {m f : Int} (h : LkF γ0 m γ f) (e : ∀ j, 63 ≤ j → j ≤ 67 → γ' j f = γ j f) (m11 : γ 9 11 ≤ γ' 9 11) : LkF γ0 m γ' f := by
  have ⟨a1, a2, a3, a4, a5, a6, a7⟩ := h
  have ⟨b, _, _, _⟩ := fF_ext (γ0 := γ0) e
  have e63 := e 63 (by omega) (by omega)
  have e64 := e 64 (by omega) (by omega)
  have e65 := e 65 (by omega) (by omega)
  have e66 := e 66 (by omega) (by omega)
  have e67 := e 67 (by omega) (by omega)
  unfold LkF
  rw [b, e63, e64, e65, e66, e67]
  exact ⟨a1, by omega, by omega, a4, a5, a6, a7⟩
theorem LkX.pn {γ0 : St} {m : Int} (hx : LkX γ0 m) {n : Int} (h1 : 0 ≤ n) (h2 : n ≤ m) : (0 ≤ γ0 26 n ∧ 0 ≤ γ0 27 n ∧ γ0 26 n + γ0 27 n ≤ γ0 28 n ∧ γ0 28 n ≤ 99) ∧ (0 ≤ γ0 25 n ∧ γ0 25 n + γ0 28 n ≤ 5841) ∧ (0 ≤ γ0 29 n ∧ 1 ≤ γ0 30 n ∧ γ0 29 n + γ0 30 n ≤ 10240) := by
  have ⟨w, w2⟩ := hx.2.1 n h1 h2
  have a := w.1
  have b := w.2.1
  have c := hx.2.2.2.2.1
  omega
theorem LkX.eq {γ0 : St} {m : Int} (hx : LkX γ0 m) {n e : Int} (h1 : 0 ≤ n) (h2 : n ≤ m) (h3 : γ0 29 n ≤ e) (h4 : e < γ0 29 n + γ0 30 n) : (0 ≤ γ0 43 e ∧ γ0 43 e < γ0 44 e ∧ γ0 44 e ≤ 10240) ∧ (0 ≤ γ0 45 e ∧ 1 ≤ γ0 46 e ∧ γ0 45 e + γ0 46 e ≤ 10240) ∧ Pf γ0 (γ0 43 e) = e ∧ Pf γ0 (γ0 44 e) = e + 1 ∧ γ0 44 e ≤ γ0 44 (γ0 29 n + γ0 30 n - 1) := by
  have ⟨w, _⟩ := hx.2.1 n h1 h2
  have a := (w.2.2.2.1 e h3 h4).1
  have a1 := a.1
  have a4 := a.2.2.2.1
  have c := hx.2.2.2
  refine ⟨by omega, by omega, a.2.1, a.2.2.1, ?_⟩
  have x : ∀ k : Nat, e + k < γ0 29 n + γ0 30 n → γ0 44 e ≤ γ0 44 (e + k) := by
    intro k
    induction k with
    | zero => intro _; rw [show e + ((0 : Nat) : Int) = e by omega]; omega
    | succ k ih =>
      intro hk
      have i1 := ih (by omega)
      have i2 := w.2.2.2.2.1 (e + k) (by omega) (by omega)
      have i3 := (w.2.2.2.1 (e + k + 1) (by omega) (by omega)).1.1
      rw [show e + ((k + 1 : Nat) : Int) = e + k + 1 by omega]
      omega
  have := x (γ0 29 n + γ0 30 n - 1 - e).toNat (by omega)
  rw [show e + (((γ0 29 n + γ0 30 n - 1 - e).toNat : Nat) : Int) = γ0 29 n + γ0 30 n - 1 by omega] at this
  exact this
theorem LkX.nn {γ0 : St} {m : Int} (hx : LkX γ0 m) {n : Int} (h1 : 0 ≤ n) (h2 : n ≤ m) : ∀ i, γ0 43 (γ0 29 n) ≤ i → i < γ0 44 (γ0 29 n + γ0 30 n - 1) → 1 ≤ cpF γ0 i ∧ 0 ≤ cvF γ0 i := by
  have ⟨w, _⟩ := hx.2.1 n h1 h2
  have a2 := w.2.1
  have co : ∀ k : Nat, γ0 29 n + k < γ0 29 n + γ0 30 n → ∀ i, γ0 43 (γ0 29 n) ≤ i → i < γ0 44 (γ0 29 n + k) → ∃ e, γ0 29 n ≤ e ∧ e < γ0 29 n + γ0 30 n ∧ γ0 43 e ≤ i ∧ i < γ0 44 e := by
    intro k
    induction k with
    | zero => intro hm i q1 q2; exact ⟨γ0 29 n, by omega, by omega, q1, by rw [show γ0 29 n = γ0 29 n + ((0 : Nat) : Int) by omega]; exact q2⟩
    | succ k ih =>
      intro hm i q1 q2
      by_cases c : i < γ0 44 (γ0 29 n + k)
      · exact ih (by omega) i q1 c
      · have c5 := w.2.2.2.2.1 (γ0 29 n + k) (by omega) (by omega)
        rw [show γ0 29 n + ((k + 1 : Nat) : Int) = γ0 29 n + k + 1 by omega] at q2
        exact ⟨γ0 29 n + k + 1, by omega, by omega, by omega, q2⟩
  intro i q1 q2
  obtain ⟨e, r1, r2, r3, r4⟩ := co (γ0 30 n - 1).toNat (by omega) i q1 (by rw [show γ0 29 n + (((γ0 30 n - 1).toNat : Nat) : Int) = γ0 29 n + γ0 30 n - 1 by omega]; exact q2)
  have p := ((w.2.2.2.1 e r1 r2).1.2.2.2.2.2 i r3 r4).2.1
  unfold cpF cvF
  by_cases q : γ0 38 i = 43
  · have y := p q
    have z := (hx.2.1 (γ0 39 i) y.1 (by omega)).1.2.2.2.2.2
    have z1 := z.1
    have z2 := z.2
    rw [if_pos q, if_pos q]
    omega
  · rw [if_neg q, if_neg q]; omega
theorem w_putIn {γ0 γ : St} {m f a : Int} (hx : LkX γ0 m) (h64 : 0 ≤ γ 64 f ∧ γ 64 f ≤ 6000) (h65 : 0 ≤ γ 65 f) (hf : 0 ≤ f ∧ f < 59) (ha : -1 ≤ a ∧ a ≤ 1000) : wp (f_Lk_putInClock γ f a) (fun z => z.2 = γ ∧ 0 ≤ z.1 ∧ (z.1 = γ 65 f ∨ 0 ≤ a ∧ z.1 = 1 + 2 * γ 64 f + a)) := by
  unfold f_Lk_putInClock
  exact wp_ite (fun c => wp_chk (by omega) (wp_chk (by omega) (wp_chk (by omega) (wp_chk (by omega) (wp_some ⟨rfl, by show 0 ≤ 1 + 2 * γ 64 f + a; omega, Or.inr ⟨by omega, rfl⟩⟩))))) (fun c => wp_chk (by omega) (wp_some ⟨rfl, h65, Or.inl rfl⟩))
theorem w_slotOfC {γ : St} {a V : Int} (ha : 0 ≤ a ∧ a ≤ 2 * V) (hV : V ≤ 6000) : wp (f_Sl_slotOfC γ a) (fun z => z.2 = γ ∧ -1 ≤ z.1 ∧ (z.1 < V ∨ z.1 = -1)) := by
  unfold f_Sl_slotOfC
  refine wp_ite (fun c => wp_chk (by omega) (wp_some ?_)) (fun c => wp_some ⟨rfl, by show (-1 : Int) ≤ -1; omega, Or.inr rfl⟩)
  rw [ishr_1 (by omega)]
  exact ⟨rfl, by show -1 ≤ (a - 1) / 2; omega, Or.inl (by show (a - 1) / 2 < V; omega)⟩
/-- a slot is set -/
def setS (γ : St) (s k o : Int) : St := setA (setA (setA (setA (setA γ 54 s k) 58 s o) 55 s (-1)) 56 s (-1)) 57 s (-1)
theorem setS_v (γ : St) (s k o : Int) (j : Nat) (i : Int) : setS γ s k o j i = if j = 57 ∧ i = s then -1 else if j = 56 ∧ i = s then -1 else if j = 55 ∧ i = s then -1 else if j = 58 ∧ i = s then o else if j = 54 ∧ i = s then k else γ j i := by simp [setS, stA]
theorem set_eq {γ : St} {s k o : Int} (h : 0 ≤ s ∧ s < 9001) : f_Sl_set γ s k o = some (0, setS γ s k o) := by
  unfold f_Sl_set
  exact some_wp (wp_chk (by omega) (wp_sub (wp_chk (by omega) (wp_sub (wp_chk (by omega) (wp_sub (wp_chk (by omega) (wp_sub (wp_chk (by omega) (wp_sub (wp_some rfl)))))))))))
theorem sadd_eq {γ : St} {k o : Int} (h : 0 ≤ γ 8 5 ∧ γ 8 5 < 9001) : f_Sl_add γ k o = some (γ 8 5, setA (setS γ (γ 8 5) k o) 8 5 (γ 8 5 + 1)) := by
  unfold f_Sl_add
  have e : setS γ (γ 8 5) k o 8 5 = γ 8 5 := by rw [setS_v]; simp
  refine some_wp (wp_bs (set_eq h) ?_)
  rw [e]
  refine wp_chk (by omega) (wp_sub (wp_chk (by simp [stA]; omega) (wp_some ?_)))
  simp [stA]
