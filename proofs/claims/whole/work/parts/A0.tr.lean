/-! the reference's trees: make, two -/
def Ch (b : Int → Int) : Int → List Int → Prop
  | x, [] => x = -1
  | x, y :: t => x = y ∧ 0 ≤ y ∧ Ch b (b y) t
theorem Ch.agree {b c : Int → Int} : ∀ {ks : List Int} {x : Int}, Ch b x ks → (∀ y ∈ ks, c y = b y) → Ch c x ks
  | [], _, h, _ => h
  | y :: t, _, h, g => ⟨h.1, h.2.1, by rw [g y List.mem_cons_self]; exact Ch.agree h.2.2 (fun z hz => g z (List.mem_cons_of_mem _ hz))⟩
/-- parts that lie one behind the other from lo to hi -/
def Sg (p : Int → Int) : Int → List Int → Int → Prop
  | lo, [], hi => lo = hi
  | lo, y :: t, hi => lo ≤ y ∧ p y = y + 1 - lo ∧ Sg p (y + 1) t hi
theorem Sg.agree {p q : Int → Int} : ∀ {ks : List Int} {lo hi : Int}, Sg p lo ks hi → (∀ y ∈ ks, q y = p y) → Sg q lo ks hi
  | [], _, _, h, _ => h
  | y :: t, _, _, h, g => ⟨h.1, by rw [g y List.mem_cons_self]; exact h.2.1, Sg.agree h.2.2 (fun z hz => g z (List.mem_cons_of_mem _ hz))⟩
theorem Sg.le {p : Int → Int} : ∀ {ks : List Int} {lo hi : Int}, Sg p lo ks hi → lo ≤ hi
  | [], lo, hi, h => Int.le_of_eq h
  | y :: t, lo, hi, h => by have := Sg.le h.2.2; have := h.1; omega
theorem Sg.mem {p : Int → Int} : ∀ {ks : List Int} {lo hi : Int}, Sg p lo ks hi → ∀ y ∈ ks, lo ≤ y ∧ y < hi
  | [], _, _, _, y, m => by cases m
  | x :: t, lo, hi, h, y, m => by
    have l := Sg.le h.2.2
    have h1 := h.1
    rcases List.mem_cons.1 m with e | e
    · subst e; omega
    · have := Sg.mem h.2.2 y e; omega
theorem Sg.len {p : Int → Int} : ∀ {ks : List Int} {lo hi : Int}, Sg p lo ks hi → (ks.length : Int) ≤ hi - lo
  | [], lo, hi, h => by have : lo = hi := h; simp; omega
  | y :: t, lo, hi, h => by
    have := Sg.len h.2.2
    have := h.1
    simp only [List.length_cons]
    omega
theorem Sg.app {p : Int → Int} : ∀ {ks ms : List Int} {lo mid hi : Int}, Sg p lo ks mid → Sg p mid ms hi → Sg p lo (ks ++ ms) hi
  | [], ms, lo, mid, hi, h, g => by have e : lo = mid := h; rw [e]; exact g
  | y :: t, ms, lo, mid, hi, h, g => ⟨h.1, h.2.1, Sg.app h.2.2 g⟩
def hMx (h : Int → Int) : List Int → Int
  | [] => 1
  | y :: t => max (h y + 1) (hMx h t)
theorem hMx_agree {p q : Int → Int} : ∀ {ks : List Int}, (∀ y ∈ ks, q y = p y) → hMx q ks = hMx p ks
  | [], _ => rfl
  | y :: t, g => by show max _ _ = max _ _; rw [g y List.mem_cons_self, hMx_agree (fun z hz => g z (List.mem_cons_of_mem _ hz))]
theorem hMx_b {p : Int → Int} : ∀ {ks : List Int}, (∀ y ∈ ks, 1 ≤ p y ∧ p y ≤ 200) → 1 ≤ hMx p ks ∧ hMx p ks ≤ 201
  | [], _ => by show 1 ≤ (1 : Int) ∧ (1 : Int) ≤ 201; omega
  | y :: t, g => by
    have a := g y List.mem_cons_self
    have b := hMx_b (fun z hz => g z (List.mem_cons_of_mem _ hz))
    show 1 ≤ max _ _ ∧ max _ _ ≤ 201
    omega
/-- cells of memory that a kind of part has -/
def stw (k : Int) : Int := if k = 24 ∨ k = 5 ∨ k = 25 then 1 else if k = 6 then 2 else 0
/-- what make leaves at part n -/
def MdP (a0 a1 a2 lo H : Int) (γ γ' : St) : Prop := (∀ j k, (j = 0 → k ≠ 40) → (20 ≤ j → j ≤ 27 → k ≠ γ 0 40) → (j = 9 → k ≠ γ 0 18) → γ' j k = γ j k) ∧ γ' 0 40 = γ 0 40 + 1 ∧ γ' 20 (γ 0 40) = a0 ∧ γ' 21 (γ 0 40) = a1 ∧ γ' 22 (γ 0 40) = a2 ∧ γ' 23 (γ 0 40) = -1 ∧ γ' 24 (γ 0 40) = -2 ∧ γ' 26 (γ 0 40) = γ 0 40 + 1 - lo ∧ γ' 27 (γ 0 40) = H ∧ γ' 9 (γ 0 18) = γ 9 (γ 0 18) + stw a0 ∧ (0 < stw a0 → γ' 25 (γ 0 40) = γ 9 (γ 0 18)) ∧ (stw a0 = 0 → γ' 25 (γ 0 40) = γ 25 (γ 0 40))
/-- in make's loop over the kids -/
def MkL (a0 a1 a2 lo H m : Int) (rest : List Int) (γ γ' : St) : Prop := (∀ j k, (j = 0 → k ≠ 40) → (20 ≤ j → j ≤ 27 → j ≠ 25 → k ≠ γ 0 40) → γ' j k = γ j k) ∧ γ' 0 40 = γ 0 40 + 1 ∧ γ' 20 (γ 0 40) = a0 ∧ γ' 21 (γ 0 40) = a1 ∧ γ' 22 (γ 0 40) = a2 ∧ γ' 23 (γ 0 40) = -1 ∧ γ' 24 (γ 0 40) = -2 ∧ γ' 26 (γ 0 40) = m + 1 - lo ∧ (1 ≤ γ' 27 (γ 0 40) ∧ γ' 27 (γ 0 40) ≤ 201) ∧ max (γ' 27 (γ 0 40)) (hMx (γ 27) rest) = H
/-- what make throws: too high -/
def MkT (γ : St) (z : Res) : Prop := ∃ γ', z = (.inl (3, sk γ), γ') ∧ ∀ j k, (j = 0 → (k < 5 ∨ 9 < k) ∧ k ≠ 40) → (20 ≤ j → j ≤ 27 → j ≠ 25 → k ≠ γ 0 40) → γ' j k = γ j k
def MkR (a0 a1 a2 lo H : Int) (γ : St) (z : Res) : Prop := (H ≤ 200 ∧ ∃ γ', z = (.inr (γ 0 40), γ') ∧ MdP a0 a1 a2 lo H γ γ') ∨ 200 < H ∧ MkT γ z
theorem w_make_b134 {a0 a1 a2 lo H : Int} {γ γ1 : St} (hx : LX γ) (hn : 0 ≤ γ 0 40 ∧ γ 0 40 ≤ 65000) (hd : 0 ≤ γ 0 18 ∧ γ 0 18 ≤ 58) (h9 : 0 ≤ γ 9 (γ 0 18) ∧ γ 9 (γ 0 18) ≤ 1000000) (h : MkL a0 a1 a2 lo H (γ 0 40) [] γ γ1) : wp (f_M_make_b134 γ1 a0 (γ 0 40)) (MkR a0 a1 a2 lo H γ) := by
  have ⟨f, c40, c20, c21, c22, c23, c24, c26, c27, cH⟩ := h
  have cH2 : max (γ1 27 (γ 0 40)) 1 = H := cH
  have e18 : γ1 0 18 = γ 0 18 := f 0 18 (by omega) (by omega)
  have e9 : γ1 9 (γ 0 18) = γ 9 (γ 0 18) := f 9 _ (by omega) (by omega)
  have b182 : stw a0 = 1 → a0 ≠ 6 → H ≤ 200 → wp (f_M_make_b182 γ1 a0 (γ 0 40)) (MkR a0 a1 a2 lo H γ) := fun q1 q2 q0 => by
    unfold f_M_make_b182 f_M_make_b203
    rw [e18, e9]
    refine wp_chk (by omega) (wp_chk (by omega) (wp_chk (by omega) (wp_sub (wp_chk (by omega) (wp_sub (wp_ite (fun q3 => wp_some ?_) (fun q3 => absurd q3 (by omega))))))))
    generalize hg : setA _ 25 (γ 0 40) _ = γ2
    have s : ∀ j k, γ2 j k = if j = 25 ∧ k = γ 0 40 then γ 9 (γ 0 18) else if j = 9 ∧ k = γ 0 18 then γ 9 (γ 0 18) + 1 else γ1 j k := fun j k => by rw [← hg, stA, stA]
    have s0 : ∀ j k, (j = 25 → k ≠ γ 0 40) → (j = 9 → k ≠ γ 0 18) → γ2 j k = γ1 j k := fun j k r1 r2 => by rw [s, if_neg (by omega), if_neg (by omega)]
    refine Or.inl ⟨q0, γ2, rfl, fun j k r1 r2 r3 => by rw [s0 j k (by omega) (by omega)]; exact f j k r1 (fun a b _ => r2 a b), ?_⟩
    refine ⟨by rw [s0 0 40 (by omega) (by omega)]; exact c40, by rw [s0 20 _ (by omega) (by omega)]; exact c20, by rw [s0 21 _ (by omega) (by omega)]; exact c21, by rw [s0 22 _ (by omega) (by omega)]; exact c22, by rw [s0 23 _ (by omega) (by omega)]; exact c23, by rw [s0 24 _ (by omega) (by omega)]; exact c24, by rw [s0 26 _ (by omega) (by omega)]; exact c26, by rw [s0 27 _ (by omega) (by omega)]; omega, by rw [s, if_neg (by omega), if_pos ⟨rfl, rfl⟩, q1], (fun _ => by rw [s, if_pos ⟨rfl, rfl⟩]), fun q => absurd q (by omega)⟩
  have b203 : stw a0 = 2 ∧ a0 = 6 ∨ stw a0 = 0 ∧ a0 ≠ 6 → H ≤ 200 → wp (f_M_make_b203 γ1 a0 (γ 0 40)) (MkR a0 a1 a2 lo H γ) := fun q1 q0 => by
    unfold f_M_make_b203
    refine wp_ite (fun q3 => wp_some ?_) (fun q3 => ?_)
    · refine Or.inl ⟨q0, γ1, rfl, fun j k r1 r2 r3 => f j k r1 (fun a b _ => r2 a b), c40, c20, c21, c22, c23, c24, c26, by omega, by omega, (fun r => by omega), fun _ => f 25 _ (by omega) (by omega)⟩
    · rw [e18, e9]
      refine wp_chk (by omega) (wp_chk (by omega) (wp_sub ?_))
      have g18 : setA γ1 25 (γ 0 40) (γ 9 (γ 0 18)) 0 18 = γ 0 18 := by rw [stA, if_neg (by omega)]; exact e18
      have g9 : setA γ1 25 (γ 0 40) (γ 9 (γ 0 18)) 9 (γ 0 18) = γ 9 (γ 0 18) := by rw [stA, if_neg (by omega)]; exact e9
      rw [g18, g9]
      refine wp_chk (by omega) (wp_chk (by omega) (wp_chk (by omega) (wp_sub (wp_some ?_))))
      generalize hg : setA _ 9 (γ 0 18) _ = γ2
      have s : ∀ j k, γ2 j k = if j = 9 ∧ k = γ 0 18 then γ 9 (γ 0 18) + 2 else if j = 25 ∧ k = γ 0 40 then γ 9 (γ 0 18) else γ1 j k := fun j k => by rw [← hg, stA, stA]
      have s0 : ∀ j k, (j = 25 → k ≠ γ 0 40) → (j = 9 → k ≠ γ 0 18) → γ2 j k = γ1 j k := fun j k r1 r2 => by rw [s, if_neg (by omega), if_neg (by omega)]
      refine Or.inl ⟨q0, γ2, rfl, fun j k r1 r2 r3 => by rw [s0 j k (by omega) (by omega)]; exact f j k r1 (fun a b _ => r2 a b), ?_⟩
      refine ⟨by rw [s0 0 40 (by omega) (by omega)]; exact c40, by rw [s0 20 _ (by omega) (by omega)]; exact c20, by rw [s0 21 _ (by omega) (by omega)]; exact c21, by rw [s0 22 _ (by omega) (by omega)]; exact c22, by rw [s0 23 _ (by omega) (by omega)]; exact c23, by rw [s0 24 _ (by omega) (by omega)]; exact c24, by rw [s0 26 _ (by omega) (by omega)]; exact c26, by rw [s0 27 _ (by omega) (by omega)]; omega, by rw [s, if_pos ⟨rfl, rfl⟩]; omega, (fun _ => by rw [s, if_neg (by omega), if_pos ⟨rfl, rfl⟩]), fun q => absurd q (by omega)⟩
  have sw : stw a0 = if a0 = 24 ∨ a0 = 5 ∨ a0 = 25 then 1 else if a0 = 6 then 2 else 0 := rfl
  unfold f_M_make_b134
  refine wp_chk (by omega) (wp_ite (fun q => ?_) (fun q => ?_))
  · refine wp_ite (fun q1 => ?_) (fun q1 => wp_ite (fun q2 => ?_) (fun q2 => wp_ite (fun q3 => ?_) (fun q3 => ?_)))
    · exact b182 (by rw [sw, if_pos (by omega)]) (by omega) (by omega)
    · exact b182 (by rw [sw, if_pos (by omega)]) (by omega) (by omega)
    · refine b203 ?_ (by omega)
      rw [sw, if_neg (by omega)]
      by_cases q4 : a0 = 6
      · exact Or.inl ⟨by rw [if_pos q4], q4⟩
      · exact Or.inr ⟨by rw [if_neg q4], q4⟩
    · exact b182 (by rw [sw, if_pos (by omega)]) (by omega) (by omega)
  · have l1 : LX γ1 := hx.fr (funext fun k => f 1 k (by omega) (by omega)) (fun k r => f 0 k (by omega) (by omega))
    have es : sk γ1 = sk γ := by
      show skpF (γ1 1) (γ1 0 1) FU (γ1 0 5) = skpF (γ 1) (γ 0 1) FU (γ 0 5)
      rw [show γ1 1 = γ 1 from funext fun k => f 1 k (by omega) (by omega), f 0 1 (by omega) (by omega), f 0 5 (by omega) (by omega)]
    rw [bndN_eq (pkM_eq l1), pk_7, es]
    refine Or.inr ⟨by omega, pkS γ1, rfl, fun j k r1 r2 => ?_⟩
    rw [pkS_o γ1 j k (by omega)]
    exact f j k (by omega) r2
theorem w_make_L74 {a0 a1 a2 lo H : Int} {γ : St} (hx : LX γ) (hn : 0 ≤ γ 0 40 ∧ γ 0 40 ≤ 65000) (hd : 0 ≤ γ 0 18 ∧ γ 0 18 ≤ 58) (h9 : 0 ≤ γ 9 (γ 0 18) ∧ γ 9 (γ 0 18) ≤ 1000000) (hl : 0 ≤ lo) : ∀ (n : Nat) (γ1 : St) (rest : List Int) (m x : Int), MkL a0 a1 a2 lo H m rest γ γ1 → Ch (γ 23) x rest → Sg (γ 26) m rest (γ 0 40) → lo ≤ m → (∀ y ∈ rest, 1 ≤ γ 27 y ∧ γ 27 y ≤ 200) → rest.length < n → wp (f_M_make_L74 f_M_make_b134 n γ1 a0 (γ 0 40) x) (MkR a0 a1 a2 lo H γ) := by
  intro n
  induction n with
  | zero => intro γ1 rest m x h1 h2 h3 h4 h5 h6; exact absurd h6 (by omega)
  | succ n ih =>
    intro γ1 rest m x h1 h2 h3 h4 h5 h6
    unfold f_M_make_L74
    match rest, h1, h2, h3, h5, h6 with
    | [], h1, h2, h3, h5, h6 =>
      have e : x = -1 := h2
      have e2 : m = γ 0 40 := h3
      rw [if_pos (by omega)]
      subst e2
      exact w_make_b134 hx hn hd h9 h1
    | y :: t, h1, h2, h3, h5, h6 =>
      have e : x = y := h2.1
      have e0 := h2.2.1
      have mm := h3.mem y List.mem_cons_self
      have hy := h5 y List.mem_cons_self
      have p := h3.2.1
      have h31 := h3.1
      have ⟨f, c40, c20, c21, c22, c23, c24, c26, c27, cH⟩ := h1
      have cH2 : max (γ1 27 (γ 0 40)) (max (γ 27 y + 1) (hMx (γ 27) t)) = H := cH
      have f26 : γ1 26 y = γ 26 y := f 26 y (by omega) (by omega)
      have f27 : γ1 27 y = γ 27 y := f 27 y (by omega) (by omega)
      have f23 : γ1 23 y = γ 23 y := f 23 y (by omega) (by omega)
      subst e
      rw [if_neg (by omega), f26, c26]
      refine wp_chk (by omega) (wp_chk (by omega) (wp_chk (by omega) (wp_chk (by omega) (wp_sub ?_))))
      have g27 : ∀ w k, setA γ1 26 (γ 0 40) w 27 k = γ1 27 k := fun w k => by rw [stA, if_neg (by omega)]
      rw [g27, g27, f27]
      refine wp_chk (by omega) (wp_chk (by omega) (wp_chk (by omega) (wp_chk (by omega) (wp_sub ?_))))
      generalize hg : setA _ 27 (γ 0 40) _ = γ2
      have s : ∀ j k, γ2 j k = if j = 27 ∧ k = γ 0 40 then max (γ1 27 (γ 0 40)) (γ 27 x + 1) else if j = 26 ∧ k = γ 0 40 then m + 1 - lo + γ 26 x else γ1 j k := fun j k => by rw [← hg, stA, stA]
      have s0 : ∀ j k, (j = 26 ∨ j = 27 → k ≠ γ 0 40) → γ2 j k = γ1 j k := fun j k r1 => by rw [s, if_neg (by omega), if_neg (by omega)]
      have s27 : γ2 27 (γ 0 40) = max (γ1 27 (γ 0 40)) (γ 27 x + 1) := by rw [s, if_pos ⟨rfl, rfl⟩]
      have s26 : γ2 26 (γ 0 40) = m + 1 - lo + γ 26 x := by rw [s, if_neg (by omega), if_pos ⟨rfl, rfl⟩]
      refine wp_chk (by omega) (wp_sub ?_)
      rw [s0 23 x (by omega), f23]
      refine ih γ2 t (x + 1) (γ 23 x) ⟨fun j k r1 r2 => by rw [s0 j k (by omega)]; exact f j k r1 r2, by rw [s0 0 40 (by omega)]; exact c40, by rw [s0 20 _ (by omega)]; exact c20, by rw [s0 21 _ (by omega)]; exact c21, by rw [s0 22 _ (by omega)]; exact c22, by rw [s0 23 _ (by omega)]; exact c23, by rw [s0 24 _ (by omega)]; exact c24, by rw [s26]; omega, by rw [s27]; omega, by rw [s27]; omega⟩ h2.2.2 h3.2.2 (by omega) (fun z hz => h5 z (List.mem_cons_of_mem _ hz)) (by simp only [List.length_cons] at h6; omega)
theorem w_make {a0 a1 a2 lo : Int} {ks : List Int} {γ : St} (hx : LX γ) (hn : 0 ≤ γ 0 40 ∧ γ 0 40 ≤ 65000) (hd : 0 ≤ γ 0 18 ∧ γ 0 18 ≤ 58) (h9 : 0 ≤ γ 9 (γ 0 18) ∧ γ 9 (γ 0 18) ≤ 1000000) (hl : 0 ≤ lo) (h2 : Ch (γ 23) a2 ks) (h3 : Sg (γ 26) lo ks (γ 0 40)) (h5 : ∀ y ∈ ks, 1 ≤ γ 27 y ∧ γ 27 y ≤ 200) : wp (f_M_make γ a0 a1 a2 1) (MkR a0 a1 a2 lo (hMx (γ 27) ks) γ) := by
  have := FU_v
  have hm := hMx_b h5
  have hlen := h3.len
  unfold f_M_make
  refine wp_chk (by omega) (wp_sub (wp_sub (wp_chk (by omega) (wp_sub (wp_chk (by omega) (wp_sub (wp_chk (by omega) (wp_sub (wp_chk (by omega) (wp_sub (wp_chk (by omega) (wp_sub (wp_chk (by omega) (wp_sub (wp_chk (by omega) (wp_sub ?_))))))))))))))))
  generalize hg : setA _ 27 (γ 0 40) 1 = γ1
  have s : ∀ j k, γ1 j k = if j = 27 ∧ k = γ 0 40 then 1 else if j = 26 ∧ k = γ 0 40 then 1 else if j = 24 ∧ k = γ 0 40 then -2 else if j = 23 ∧ k = γ 0 40 then -1 else if j = 22 ∧ k = γ 0 40 then a2 else if j = 21 ∧ k = γ 0 40 then a1 else if j = 20 ∧ k = γ 0 40 then a0 else if j = 0 ∧ k = 40 then γ 0 40 + 1 else γ j k := fun j k => by rw [← hg]; simp only [stA]
  have e27 : γ1 27 (γ 0 40) = 1 := by rw [s, if_pos ⟨rfl, rfl⟩]
  have e26 : γ1 26 (γ 0 40) = 1 := by rw [s, if_neg (by omega), if_pos ⟨rfl, rfl⟩]
  refine w_make_L74 hx hn hd h9 hl FU γ1 ks lo a2 ⟨fun j k r1 r2 => by rw [s]; (repeat rw [if_neg (by omega)]), ?_, ?_, ?_, ?_, ?_, ?_, by rw [e26]; omega, by rw [e27]; omega, by rw [e27]; omega⟩ h2 h3 (Int.le_refl _) h5 (by omega)
  · rw [s]; (repeat rw [if_neg (by omega)]); rw [if_pos ⟨rfl, rfl⟩]
  · rw [s]; (repeat rw [if_neg (by omega)]); rw [if_pos ⟨rfl, rfl⟩]
  · rw [s]; (repeat rw [if_neg (by omega)]); rw [if_pos ⟨rfl, rfl⟩]
  · rw [s]; (repeat rw [if_neg (by omega)]); rw [if_pos ⟨rfl, rfl⟩]
  · rw [s]; (repeat rw [if_neg (by omega)]); rw [if_pos ⟨rfl, rfl⟩]
  · rw [s]; (repeat rw [if_neg (by omega)]); rw [if_pos ⟨rfl, rfl⟩]
