/-! the class's program, exactly: steps -/
/-- every slot once, causes first -/
def OrdX (G : St) (S : Int) : Prop := (∀ i, 0 ≤ i → i < S → 0 ≤ G 75 i ∧ G 75 i < S) ∧ (∀ i j, 0 ≤ i → i < S → 0 ≤ j → j < S → G 75 i = G 75 j → i = j) ∧ (∀ s, 0 ≤ s → s < S → ∃ k, 0 ≤ k ∧ k < S ∧ G 75 k = s) ∧ (∀ k, 0 ≤ k → k < S → ∀ c, Ed G (G 75 k) c → ∃ i, 0 ≤ i ∧ i < k ∧ G 75 i = c) ∧ G 10 11 = S ∧ (G 54 0 = 2 ∧ 0 < S)
theorem OrdX.of {γ6 G : St} {V : Int} (f : OdF γ6 G) (s : SrI G V (γ6 8 5)) (t : TpO γ6 G) (n : G 10 13 < 0) (h0 : G 54 0 = 2) (hs : 0 < γ6 8 5) : OrdX G (γ6 8 5) := by
  refine ⟨s.2.1, fun i j a b c d e => s.inj a b c d e, fun x a b => s.pos a b, fun k a b c e => ?_, s.1, h0, hs⟩
  rcases t with t | t
  · omega
  · refine t k a (by rw [s.1]; exact b) c ?_
    unfold Ed at e ⊢
    rw [f 55 _ (by omega) (by omega), f 56 _ (by omega) (by omega), f 57 _ (by omega) (by omega)] at e
    exact e
def mdO (γ : St) (a : Int) : Int := if 0 ≤ a then γ 78 a else 0
theorem mdO_pc {γ : St} {a : Int} : pc (f_Pg_madeOf γ a) (fun z => z = (mdO γ a, γ)) := by
  unfold f_Pg_madeOf mdO
  refine pc_i (fun q => pc_c (fun _ => pc_s ?_)) (fun q => pc_s ?_)
  · rw [if_pos q]
  · rw [if_neg q]
theorem as_pc {γ : St} {s : Int} : pc (f_Pg_addStep γ s) (fun z => ∀ j k, z.2 j k = if j = 11 ∧ k = 9 then γ 11 9 + 6 else if j = 80 ∧ k = γ 11 9 + 5 then γ 58 s else if j = 80 ∧ k = γ 11 9 + 4 then mdO γ (γ 57 s) else if j = 80 ∧ k = γ 11 9 + 3 then mdO γ (γ 56 s) else if j = 80 ∧ k = γ 11 9 + 2 then mdO γ (γ 55 s) else if j = 80 ∧ k = γ 11 9 + 1 then s else if j = 80 ∧ k = γ 11 9 then γ 54 s else γ j k) := by
  unfold f_Pg_addStep
  refine pc_c (fun _ => pc_c (fun _ => pc_a (pc_c (fun _ => pc_c (fun _ => pc_a (pc_c (fun _ => pc_c (fun _ => pc_b mdO_pc (fun r1 g1 w1 => ?_)))))))))
  cases w1
  refine pc_c (fun _ => pc_a (pc_c (fun _ => pc_c (fun _ => pc_b mdO_pc (fun r1 g1 w1 => ?_)))))
  cases w1
  refine pc_c (fun _ => pc_a (pc_c (fun _ => pc_c (fun _ => pc_b mdO_pc (fun r1 g1 w1 => ?_)))))
  cases w1
  refine pc_c (fun _ => pc_a (pc_c (fun _ => pc_c (fun _ => pc_c (fun _ => pc_a (pc_c (fun _ => pc_a (pc_s (fun j k => ?_)))))))))
  show setA _ 11 9 _ j k = _
  simp [stA, mdO]
/-- a slot's made value stands where -/
def MdE (G γ : St) (k : Int) : Prop := γ 78 (G 75 k) = (if G 54 (G 75 k) = 2 ∧ 0 ≤ G 55 (G 75 k) then γ 78 (G 55 (G 75 k)) else G 75 k) ∧ (∃ i, 0 ≤ i ∧ i ≤ k ∧ γ 78 (G 75 k) = G 75 i) ∧ (G 54 (G 75 k) = 3 → γ 79 (G 75 k) = G 58 (G 75 k))
/-- a step of the slot s -/
def StE (G γ : St) (t s : Int) : Prop := (G 54 s ≠ 2 ∧ G 54 s ≠ 3) ∧ γ 80 (6 * t) = G 54 s ∧ γ 80 (6 * t + 1) = s ∧ γ 80 (6 * t + 2) = mdO γ (G 55 s) ∧ γ 80 (6 * t + 3) = mdO γ (G 56 s) ∧ γ 80 (6 * t + 4) = mdO γ (G 57 s) ∧ γ 80 (6 * t + 5) = G 58 s
def StL (G γ : St) (i n : Int) (q : Int → Int) : Prop := (0 ≤ n ∧ γ 11 9 = 6 * n) ∧ (∀ t, 0 ≤ t → t < n → (0 ≤ q t ∧ q t < i) ∧ StE G γ t (G 75 (q t))) ∧ (∀ t u, 0 ≤ t → t < u → u < n → q t < q u) ∧ ∀ k, 0 ≤ k → k < i → G 54 (G 75 k) ≠ 2 → G 54 (G 75 k) ≠ 3 → ∃ t, 0 ≤ t ∧ t < n ∧ q t = k
def BsX (G γ : St) (i : Int) : Prop := (∀ j k, (j = 11 → k ≠ 9) → j ≠ 78 → j ≠ 79 → j ≠ 80 → γ j k = G j k) ∧ (∀ k, 0 ≤ k → k < i → MdE G γ k) ∧ ∃ n q, StL G γ i n q
theorem mdO_ag {γ γ' : St} {a : Int} (h : 0 ≤ a → γ' 78 a = γ 78 a) : mdO γ' a = mdO γ a := by
  unfold mdO
  by_cases q : 0 ≤ a
  · rw [if_pos q, if_pos q, h q]
  · rw [if_neg q, if_neg q]
theorem StE.ag {G γ γ' : St} {t s : Int} (h : StE G γ t s) (h80 : ∀ k, 6 * t ≤ k → k < 6 * t + 6 → γ' 80 k = γ 80 k) (h78 : ∀ c, Ed G s c → γ' 78 c = γ 78 c) : StE G γ' t s := by
  obtain ⟨a, b, c, d, e, f, g⟩ := h
  unfold StE
  rw [h80 _ (by omega) (by omega), h80 _ (by omega) (by omega), h80 _ (by omega) (by omega), h80 _ (by omega) (by omega), h80 _ (by omega) (by omega), h80 _ (by omega) (by omega), mdO_ag (γ := γ) (γ' := γ') (a := G 55 s) (fun q => h78 _ ⟨q, Or.inl rfl⟩), mdO_ag (γ := γ) (γ' := γ') (a := G 56 s) (fun q => h78 _ ⟨q, Or.inr (Or.inl rfl)⟩), mdO_ag (γ := γ) (γ' := γ') (a := G 57 s) (fun q => h78 _ ⟨q, Or.inr (Or.inr rfl)⟩)]
  exact ⟨a, b, c, d, e, f, g⟩
theorem MdE.ag {G γ γ' : St} {k : Int} (h : MdE G γ k) (e1 : γ' 78 (G 75 k) = γ 78 (G 75 k)) (e2 : ∀ c, Ed G (G 75 k) c → γ' 78 c = γ 78 c) (e3 : γ' 79 (G 75 k) = γ 79 (G 75 k)) : MdE G γ' k := by
  obtain ⟨a, b, c⟩ := h
  unfold MdE
  rw [e1, e3]
  refine ⟨?_, b, c⟩
  by_cases q : G 54 (G 75 k) = 2 ∧ 0 ≤ G 55 (G 75 k)
  · rw [if_pos q] at a ⊢
    rw [e2 _ ⟨q.2, Or.inl rfl⟩]; exact a
  · rw [if_neg q] at a ⊢
    exact a
theorem bs_L7 {G : St} {S : Int} (o : OrdX G S) : ∀ (m : Nat) (γ : St) (i : Int), BsX G γ i → 0 ≤ i → i ≤ S → pc (f_Pg_buildSteps_L7 m γ i) (fun z => BsX G z.2 S) := by
  obtain ⟨o1, o2, o3, o4, o5, o6⟩ := o
  intro m
  induction m with
  | zero => intro γ i _ _ _; exact pc_n
  | succ m ih =>
    intro γ i h h0 h1
    have ⟨f, md, n, q, ⟨n0, n9⟩, st, mo, al⟩ := h
    unfold f_Pg_buildSteps_L7
    rw [f 10 11 (by omega) (by omega) (by omega) (by omega), o5, f 75 i (by omega) (by omega) (by omega) (by omega)]
    refine pc_i (fun c => pc_s (by rw [show i = S by omega] at h; exact h)) (fun c => ?_)
    have si := o1 i h0 (by omega)
    generalize hs : G 75 i = s at *
    refine pc_c (fun _ => pc_a (pc_c (fun _ => pc_a (pc_c (fun _ => pc_a (pc_c (fun _ => ?_)))))))
    have s1 : ∀ j k, setA (setA γ 78 s s) 79 s 0 j k = if j = 79 ∧ k = s then 0 else if j = 78 ∧ k = s then s else γ j k := fun j k => by rw [stA, stA]
    generalize setA (setA γ 78 s s) 79 s 0 = γ1 at *
    have so : ∀ j k, j ≠ 78 → j ≠ 79 → γ1 j k = γ j k := fun j k w1 w2 => by rw [s1, if_neg (by omega), if_neg (by omega)]
    have g1 : ∀ j k, (j = 11 → k ≠ 9) → j ≠ 78 → j ≠ 79 → j ≠ 80 → γ1 j k = G j k := fun j k w1 w2 w3 w4 => by rw [so j k w2 w3]; exact f j k w1 w2 w3 w4
    have ne : ∀ k, 0 ≤ k → k < i → G 75 k ≠ s := fun k w1 w2 e => by
      have := o2 k i w1 (by omega) h0 (by omega) (by rw [hs]; exact e)
      omega
    have nc : ∀ k, 0 ≤ k → k ≤ i → ∀ c, Ed G (G 75 k) c → c ≠ s := fun k w1 w2 c w3 e => by
      obtain ⟨i', a1, a2, a3⟩ := o4 k w1 (by omega) c w3
      exact ne i' a1 (by omega) (by rw [a3]; exact e)
    -- what stays where only s is made
    have stay : ∀ γ2 : St, (∀ k, k ≠ s → γ2 78 k = γ 78 k) → (∀ k, k ≠ s → γ2 79 k = γ 79 k) → ∀ k, 0 ≤ k → k < i → MdE G γ2 k := fun γ2 w1 w2 k w3 w4 => (md k w3 w4).ag (w1 _ (ne k w3 w4)) (fun c w5 => w1 c (nc k w3 (by omega) c w5)) (w2 _ (ne k w3 w4))
    have noop : ∀ γ2 : St, (∀ j k, (j = 11 → k ≠ 9) → j ≠ 78 → j ≠ 79 → j ≠ 80 → γ2 j k = G j k) → (∀ k, k ≠ s → γ2 78 k = γ 78 k) → (∀ k, k ≠ s → γ2 79 k = γ 79 k) → (∀ k, γ2 80 k = γ 80 k) → γ2 11 9 = γ 11 9 → MdE G γ2 i → (G 54 s = 2 ∨ G 54 s = 3) → BsX G γ2 (i + 1) := fun γ2 w0 w1 w2 w3 w4 w5 w6 => by
      refine ⟨w0, fun k a1 a2 => ?_, n, q, ⟨n0, by omega⟩, fun t a1 a2 => ?_, mo, fun k a1 a2 a3 a4 => ?_⟩
      · by_cases e : k = i
        · rw [e]; exact w5
        · exact stay γ2 w1 w2 k a1 (by omega)
      · have b := st t a1 a2
        exact ⟨by omega, b.2.ag (fun k _ _ => w3 k) (fun c w => w1 c (nc (q t) b.1.1 (by omega) c w))⟩
      · by_cases e : k = i
        · rw [e, hs] at a3 a4; omega
        · exact al k a1 (by omega) a3 a4
    have nx : ∀ γ2, BsX G γ2 (i + 1) → pc (f_Pg_buildSteps_b130 (f_Pg_buildSteps_L7 m) γ2 i) (fun z => BsX G z.2 S) := fun γ2 w => by
      unfold f_Pg_buildSteps_b130
      exact pc_c (fun _ => ih γ2 (i + 1) w (by omega) (by omega))
    have k54 : γ1 54 s = G 54 s := g1 54 s (by omega) (by omega) (by omega) (by omega)
    have k55 : γ1 55 s = G 55 s := g1 55 s (by omega) (by omega) (by omega) (by omega)
    have k58 : γ1 58 s = G 58 s := g1 58 s (by omega) (by omega) (by omega) (by omega)
    have a78 : γ1 78 s = s := by rw [s1, if_neg (by omega), if_pos ⟨rfl, rfl⟩]
    have b78 : ∀ k, k ≠ s → γ1 78 k = γ 78 k := fun k w => by rw [s1, if_neg (by omega), if_neg (by omega)]
    have b79 : ∀ k, k ≠ s → γ1 79 k = γ 79 k := fun k w => by rw [s1, if_neg (by omega), if_neg (by omega)]
    rw [k54, k55, k58]
    refine pc_i (fun c2 => pc_c (fun _ => pc_i (fun c3 => ?_) (fun c3 => ?_))) (fun c2 => pc_c (fun _ => pc_i (fun c3 => ?_) (fun c3 => ?_)))
    · refine pc_b as_pc (fun r γ2 w => nx γ2 ?_)
      have e9 : γ1 11 9 = γ 11 9 := so 11 9 (by omega) (by omega)
      rw [e9, k54, k55, k58, g1 56 s (by omega) (by omega) (by omega) (by omega), g1 57 s (by omega) (by omega) (by omega) (by omega)] at w
      have w : ∀ j k, γ2 j k = if j = 11 ∧ k = 9 then γ 11 9 + 6 else if j = 80 ∧ k = γ 11 9 + 5 then G 58 s else if j = 80 ∧ k = γ 11 9 + 4 then mdO γ1 (G 57 s) else if j = 80 ∧ k = γ 11 9 + 3 then mdO γ1 (G 56 s) else if j = 80 ∧ k = γ 11 9 + 2 then mdO γ1 (G 55 s) else if j = 80 ∧ k = γ 11 9 + 1 then s else if j = 80 ∧ k = γ 11 9 then G 54 s else γ1 j k := w
      have wo : ∀ j k, j ≠ 80 → (j = 11 → k ≠ 9) → γ2 j k = γ1 j k := fun j k w1 w2 => by rw [w, if_neg (by omega), if_neg (by omega), if_neg (by omega), if_neg (by omega), if_neg (by omega), if_neg (by omega), if_neg (by omega)]
      have w80 : ∀ k, k < γ 11 9 → γ2 80 k = γ 80 k := fun k w1 => by rw [w, if_neg (by omega), if_neg (by omega), if_neg (by omega), if_neg (by omega), if_neg (by omega), if_neg (by omega), if_neg (by omega)]; exact so 80 k (by omega) (by omega)
      have w78 : ∀ k, k ≠ s → γ2 78 k = γ 78 k := fun k w1 => by rw [wo 78 k (by omega) (by omega)]; exact b78 k w1
      have w79 : ∀ k, k ≠ s → γ2 79 k = γ 79 k := fun k w1 => by rw [wo 79 k (by omega) (by omega)]; exact b79 k w1
      have x78 : γ2 78 s = s := by rw [wo 78 s (by omega) (by omega)]; exact a78
      have mdc : ∀ a, Ed G s a ∨ a < 0 → mdO γ1 a = mdO γ2 a := fun a w1 => mdO_ag (fun w2 => (wo 78 a (by omega) (by omega)).symm)
      refine ⟨fun j k w1 w2 w3 w4 => by rw [wo j k w4 w1]; exact g1 j k w1 w2 w3 w4, fun k a1 a2 => ?_, n + 1, fun t => if t = n then i else q t, ⟨by omega, by rw [w, if_pos ⟨rfl, rfl⟩]; omega⟩, fun t a1 a2 => ?_, fun t u a1 a2 a3 => ?_, fun k a1 a2 a3 a4 => ?_⟩
      · by_cases e : k = i
        · unfold MdE
          rw [e, hs, x78, if_neg (fun w1 => c2 w1.1)]
          exact ⟨rfl, ⟨i, h0, Int.le_refl _, hs.symm⟩, fun w1 => absurd w1 c3⟩
        · exact stay γ2 w78 w79 k a1 (by omega)
      · show (0 ≤ (if t = n then i else q t) ∧ (if t = n then i else q t) < i + 1) ∧ StE G γ2 t (G 75 (if t = n then i else q t))
        by_cases e : t = n
        · rw [if_pos e, hs]
          refine ⟨by omega, ⟨c2, c3⟩, ?_, ?_, ?_, ?_, ?_, ?_⟩
          · rw [w, if_neg (by omega), if_neg (by omega), if_neg (by omega), if_neg (by omega), if_neg (by omega), if_neg (by omega), if_pos ⟨rfl, by omega⟩]
          · rw [w, if_neg (by omega), if_neg (by omega), if_neg (by omega), if_neg (by omega), if_neg (by omega), if_pos ⟨rfl, by omega⟩]
          · rw [w, if_neg (by omega), if_neg (by omega), if_neg (by omega), if_neg (by omega), if_pos ⟨rfl, by omega⟩]
            exact mdO_ag (fun w2 => (wo 78 _ (by omega) (by omega)).symm)
          · rw [w, if_neg (by omega), if_neg (by omega), if_neg (by omega), if_pos ⟨rfl, by omega⟩]
            exact mdO_ag (fun w2 => (wo 78 _ (by omega) (by omega)).symm)
          · rw [w, if_neg (by omega), if_neg (by omega), if_pos ⟨rfl, by omega⟩]
            exact mdO_ag (fun w2 => (wo 78 _ (by omega) (by omega)).symm)
          · rw [w, if_neg (by omega), if_pos ⟨rfl, by omega⟩]
        · rw [if_neg e]
          have b := st t a1 (by omega)
          exact ⟨by omega, b.2.ag (fun k _ _ => w80 k (by omega)) (fun c w1 => w78 c (nc (q t) b.1.1 (by omega) c w1))⟩
      · show (if t = n then i else q t) < (if u = n then i else q u)
        rw [if_neg (by omega)]
        by_cases e : u = n
        · rw [if_pos e]
          exact (st t a1 (by omega)).1.2
        · rw [if_neg e]
          exact mo t u a1 a2 (by omega)
      · by_cases e : k = i
        · exact ⟨n, by omega, by omega, by show (if n = n then i else q n) = k; rw [if_pos rfl]; exact e.symm⟩
        · obtain ⟨t, b1, b2, b3⟩ := al k a1 (by omega) a3 a4
          exact ⟨t, b1, by omega, by show (if t = n then i else q t) = k; rw [if_neg (by omega)]; exact b3⟩
    · refine pc_c (fun _ => pc_c (fun _ => pc_a (nx _ ?_)))
      have s2 : ∀ j k, setA γ1 79 s (G 58 s) j k = if j = 79 ∧ k = s then G 58 s else γ1 j k := fun j k => by rw [stA]
      generalize setA γ1 79 s (G 58 s) = γ2 at *
      have x78 : γ2 78 s = s := by rw [s2, if_neg (by omega)]; exact a78
      refine noop γ2 (fun j k w1 w2 w3 w4 => by rw [s2, if_neg (by omega)]; exact g1 j k w1 w2 w3 w4) (fun k w => by rw [s2, if_neg (by omega)]; exact b78 k w) (fun k w => by rw [s2, if_neg (by omega)]; exact b79 k w) (fun k => by rw [s2, if_neg (by omega)]; exact so 80 k (by omega) (by omega)) (by rw [s2, if_neg (by omega)]; exact so 11 9 (by omega) (by omega)) ?_ (by omega)
      unfold MdE
      rw [hs, x78, if_neg (fun w1 => c2 w1.1)]
      exact ⟨rfl, ⟨i, h0, Int.le_refl _, hs.symm⟩, fun _ => by rw [s2, if_pos ⟨rfl, rfl⟩]⟩
    · have ei : Ed G (G 75 i) (G 55 s) := ⟨c3, Or.inl (by rw [hs])⟩
      have an := nc i h0 (Int.le_refl _) _ ei
      rw [b78 _ an]
      refine pc_c (fun _ => pc_c (fun _ => ?_))
      unfold f_Pg_buildSteps_b90
      refine pc_c (fun _ => pc_a (nx _ ?_))
      have s2 : ∀ j k, setA γ1 78 s (γ 78 (G 55 s)) j k = if j = 78 ∧ k = s then γ 78 (G 55 s) else γ1 j k := fun j k => by rw [stA]
      generalize setA γ1 78 s (γ 78 (G 55 s)) = γ2 at *
      refine noop γ2 (fun j k w1 w2 w3 w4 => by rw [s2, if_neg (by omega)]; exact g1 j k w1 w2 w3 w4) (fun k w => by rw [s2, if_neg (by omega)]; exact b78 k w) (fun k w => by rw [s2, if_neg (by omega)]; exact b79 k w) (fun k => by rw [s2, if_neg (by omega)]; exact so 80 k (by omega) (by omega)) (by rw [s2, if_neg (by omega)]; exact so 11 9 (by omega) (by omega)) ?_ (by omega)
      obtain ⟨i', a1, a2, a3⟩ := o4 i h0 (by omega) _ ei
      obtain ⟨_, ⟨i2, d1, d2, d3⟩, _⟩ := md i' a1 a2
      rw [a3] at d3
      unfold MdE
      rw [hs, if_pos ⟨by omega, c3⟩]
      have z1 : γ2 78 s = γ 78 (G 55 s) := by rw [s2, if_pos ⟨rfl, rfl⟩]
      have z2 : γ2 78 (G 55 s) = γ 78 (G 55 s) := by rw [s2, if_neg (by omega)]; exact b78 _ an
      rw [z1, z2]
      exact ⟨rfl, ⟨i2, d1, by omega, d3⟩, fun w1 => by omega⟩
    · unfold f_Pg_buildSteps_b90
      refine pc_c (fun _ => pc_a (nx _ ?_))
      have s2 : ∀ j k, setA γ1 78 s s j k = if j = 78 ∧ k = s then s else γ1 j k := fun j k => by rw [stA]
      generalize setA γ1 78 s s = γ2 at *
      have x78 : γ2 78 s = s := by rw [s2, if_pos ⟨rfl, rfl⟩]
      refine noop γ2 (fun j k w1 w2 w3 w4 => by rw [s2, if_neg (by omega)]; exact g1 j k w1 w2 w3 w4) (fun k w => by rw [s2, if_neg (by omega)]; exact b78 k w) (fun k w => by rw [s2, if_neg (by omega)]; exact b79 k w) (fun k => by rw [s2, if_neg (by omega)]; exact so 80 k (by omega) (by omega)) (by rw [s2, if_neg (by omega)]; exact so 11 9 (by omega) (by omega)) ?_ (by omega)
      unfold MdE
      rw [hs, x78, if_neg (fun w1 => c3 w1.2)]
      exact ⟨rfl, ⟨i, h0, Int.le_refl _, hs.symm⟩, fun w1 => by omega⟩
