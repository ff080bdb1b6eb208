/-! the class's program, exactly: an instant -/
def rsF (k x y w i : Int) (M : Int → Int) (o : Int) : Int := if k = 9 then (if x ≠ y then 0 else 1) else if k = 10 then (if x = y then 0 else 1) else if k = 11 then (if y ≤ x then 0 else 1) else if k = 12 then (if y < x then 0 else 1) else if k = 13 then (if x ≤ y then 0 else 1) else if k = 14 then (if x < y then 0 else 1) else if k = 15 then (wr (x + y)) else if k = 16 then (wr (x - y)) else if k = 17 then (wr (x * y)) else if k = 18 then (if M i ≠ 0 then y else x) else if k = 19 then (ior (wr (1 - x)) y) else if k = 28 then (wr (1 - x)) else if k = 29 then (iand x y) else if k = 30 then (ior x y) else if k = 31 then (ixor x y) else if k = 35 then (M i) else if k = 36 then (if y ≠ o then M i else x) else if k = 37 then (if M i ≠ 0 then M (i + 1) else x) else if k = 38 then (if y ≠ 0 then idiv x y else 0) else if k = 39 then (if y ≠ 0 then irem x y else 0) else if k = 42 then (wr (-x)) else (if x ≠ 1 then w else y)
theorem res_pc {γ : St} {a : Int} : pc (f_Pg_result γ a) (fun z => z = (rsF (γ 80 a) (γ 79 (γ 80 (a + 2))) (γ 79 (γ 80 (a + 3))) (γ 79 (γ 80 (a + 4))) (γ 80 (a + 5)) (γ 81) (γ 86 (γ 62 (γ 80 (a + 5)))), γ)) := by
  unfold f_Pg_result
  refine pc_c (fun _ => pc_c (fun _ => pc_c (fun _ => pc_a (pc_c (fun _ => pc_c (fun _ => pc_c (fun _ => pc_a (pc_c (fun _ => pc_c (fun _ => pc_a (pc_c (fun _ => ?_))))))))))))
  unfold rsF
  refine pc_i (fun q => ?_) (fun q => ?_)
  · rw [if_pos q]
    exact pc_i (fun c => pc_s (by rw [if_pos c])) (fun c => pc_s (by rw [if_neg c]))
  rw [if_neg q]
  clear q
  refine pc_i (fun q => ?_) (fun q => ?_)
  · rw [if_pos q]
    exact pc_i (fun c => pc_s (by rw [if_pos c])) (fun c => pc_s (by rw [if_neg c]))
  rw [if_neg q]
  clear q
  refine pc_i (fun q => ?_) (fun q => ?_)
  · rw [if_pos q]
    exact pc_i (fun c => pc_s (by rw [if_pos c])) (fun c => pc_s (by rw [if_neg c]))
  rw [if_neg q]
  clear q
  refine pc_i (fun q => ?_) (fun q => ?_)
  · rw [if_pos q]
    exact pc_i (fun c => pc_s (by rw [if_pos c])) (fun c => pc_s (by rw [if_neg c]))
  rw [if_neg q]
  clear q
  refine pc_i (fun q => ?_) (fun q => ?_)
  · rw [if_pos q]
    exact pc_i (fun c => pc_s (by rw [if_pos c])) (fun c => pc_s (by rw [if_neg c]))
  rw [if_neg q]
  clear q
  refine pc_i (fun q => ?_) (fun q => ?_)
  · rw [if_pos q]
    exact pc_i (fun c => pc_s (by rw [if_pos c])) (fun c => pc_s (by rw [if_neg c]))
  rw [if_neg q]
  clear q
  refine pc_i (fun q => ?_) (fun q => ?_)
  · rw [if_pos q]
    exact pc_s rfl
  rw [if_neg q]
  clear q
  refine pc_i (fun q => ?_) (fun q => ?_)
  · rw [if_pos q]
    exact pc_s rfl
  rw [if_neg q]
  clear q
  refine pc_i (fun q => ?_) (fun q => ?_)
  · rw [if_pos q]
    exact pc_s rfl
  rw [if_neg q]
  clear q
  refine pc_i (fun q => ?_) (fun q => ?_)
  · rw [if_pos q]
    exact pc_c (fun _ => pc_i (fun c => pc_s (by rw [if_pos c])) (fun c => pc_s (by rw [if_neg c])))
  rw [if_neg q]
  clear q
  refine pc_i (fun q => ?_) (fun q => ?_)
  · rw [if_pos q]
    exact pc_s rfl
  rw [if_neg q]
  clear q
  refine pc_i (fun q => ?_) (fun q => ?_)
  · rw [if_pos q]
    exact pc_s rfl
  rw [if_neg q]
  clear q
  refine pc_i (fun q => ?_) (fun q => ?_)
  · rw [if_pos q]
    exact pc_s rfl
  rw [if_neg q]
  clear q
  refine pc_i (fun q => ?_) (fun q => ?_)
  · rw [if_pos q]
    exact pc_s rfl
  rw [if_neg q]
  clear q
  refine pc_i (fun q => ?_) (fun q => ?_)
  · rw [if_pos q]
    exact pc_s rfl
  rw [if_neg q]
  clear q
  refine pc_i (fun q => ?_) (fun q => ?_)
  · rw [if_pos q]
    exact pc_c (fun _ => pc_s rfl)
  rw [if_neg q]
  clear q
  refine pc_i (fun q => ?_) (fun q => ?_)
  · rw [if_pos q]
    exact pc_c (fun _ => pc_c (fun _ => pc_i (fun c => pc_c (fun _ => pc_s (by rw [if_pos c]))) (fun c => pc_s (by rw [if_neg c]))))
  rw [if_neg q]
  clear q
  refine pc_i (fun q => ?_) (fun q => ?_)
  · rw [if_pos q]
    exact pc_c (fun _ => pc_i (fun c => pc_c (fun _ => pc_c (fun _ => pc_s (by rw [if_pos c])))) (fun c => pc_s (by rw [if_neg c])))
  rw [if_neg q]
  clear q
  refine pc_i (fun q => ?_) (fun q => ?_)
  · rw [if_pos q]
    exact pc_i (fun c => pc_c (fun _ => pc_s (by rw [if_pos c]))) (fun c => pc_s (by rw [if_neg c]))
  rw [if_neg q]
  clear q
  refine pc_i (fun q => ?_) (fun q => ?_)
  · rw [if_pos q]
    exact pc_i (fun c => pc_c (fun _ => pc_s (by rw [if_pos c]))) (fun c => pc_s (by rw [if_neg c]))
  rw [if_neg q]
  clear q
  refine pc_i (fun q => ?_) (fun q => ?_)
  · rw [if_pos q]
    exact pc_s rfl
  rw [if_neg q]
  clear q
  exact pc_i (fun c => pc_c (fun _ => pc_c (fun _ => pc_c (fun _ => pc_s (by rw [if_pos c]))))) (fun c => pc_s (by rw [if_neg c]))
/-- the program at any time -/
def PgX (G γ : St) (S V : Int) : Prop := (∀ j k, j ≠ 0 → j ≠ 10 → j ≠ 11 → j ≠ 12 ∧ j ≠ 13 → j ≠ 73 → j ≠ 74 → (j < 61 ∨ 62 < j ∧ j < 76) → γ j k = G j k) ∧ (∀ k, 0 ≤ k → k < S → MdE G γ k) ∧ (∃ n q, StL G γ S n q) ∧ ClB G γ V ∧ ∀ i, 0 ≤ i → i < G 8 11 → γ 61 i = γ 78 (G 61 i) ∧ γ 62 i = γ 83 (G 62 i)
theorem BldX.pg {G γ : St} {S V : Int} (h : BldX G γ S V) : PgX G γ S V := ⟨fun j k _ _ q _ _ _ q2 => h.1 j k q q2, h.2.1, h.2.2.1, h.2.2.2.1, h.2.2.2.2.1⟩
theorem PgX.fr {G γ γ' : St} {S V : Int} (h : PgX G γ S V) (f : ∀ j k, j ≠ 0 → j ≠ 10 → j ≠ 11 → j ≠ 12 ∧ j ≠ 13 → j ≠ 73 → j ≠ 74 → j ≠ 76 → j ≠ 77 → j ≠ 79 → j ≠ 81 → j ≠ 82 → j ≠ 87 → γ' j k = γ j k) (f11 : γ' 11 9 = γ 11 9 ∧ γ' 11 17 = γ 11 17) (f79 : ∀ s, G 54 s = 3 → γ' 79 s = γ 79 s) (f87 : γ' 87 0 = γ 87 0) : PgX G γ' S V := by
  obtain ⟨a, b, ⟨n, q, c1, c2, c3, c4⟩, ⟨d1, d2, d3, d4, d5⟩, e⟩ := h
  have r : ∀ (j : Nat) (k : Int), (j = 61 ∨ j = 62 ∨ j = 78 ∨ j = 80 ∨ 83 ≤ j ∧ j ≤ 86) → γ' j k = γ j k := fun j k w => f j k (by omega) (by omega) (by omega) (by omega) (by omega) (by omega) (by omega) (by omega) (by omega) (by omega) (by omega) (by omega)
  have cn : ∀ c, ClN G γ c → ClN G γ' c := fun c w => by
    unfold ClN at w ⊢
    rw [r 83 c (by omega), r 84 _ (by omega), r 83 _ (by omega), r 85 _ (by omega), r 86 _ (by omega), r 78 _ (by omega), f11.2]
    exact w
  refine ⟨fun j k w1 w2 w3 w4 w5 w6 w7 => by rw [f j k w1 w2 w3 w4 w5 w6 (by omega) (by omega) (by omega) (by omega) (by omega) (by omega)]; exact a j k w1 w2 w3 w4 w5 w6 w7, fun k w1 w2 => ?_, ⟨n, q, ⟨c1.1, by rw [f11.1]; exact c1.2⟩, fun t w1 w2 => ⟨(c2 t w1 w2).1, (c2 t w1 w2).2.ag (fun k _ _ => r 80 k (by omega)) (fun c _ => r 78 c (by omega))⟩, c3, c4⟩, ⟨by rw [r 83 0 (by omega)]; exact d1, by rw [f87]; exact d2, fun m w1 w2 => by rw [r 84 m (by omega)]; exact d3 m w1 (by omega), fun s w1 w2 w3 => cn _ (d4 s w1 w2 w3), fun i w1 w2 w3 => cn _ (d5 i w1 w2 w3)⟩, fun i w1 w2 => by rw [r 61 i (by omega), r 62 i (by omega), r 78 _ (by omega), r 83 _ (by omega)]; exact e i w1 w2⟩
  obtain ⟨b1, b2, b3⟩ := b k w1 w2
  unfold MdE
  rw [r 78 _ (by omega), r 78 _ (by omega)]
  exact ⟨b1, b2, fun w => by rw [f79 _ w]; exact b3 w⟩
/-- where a step looks is made before it -/
theorem sd_ne {G γ : St} {S n u t c : Int} {q : Int → Int} (o : OrdX G S) (md : ∀ k, 0 ≤ k → k < S → MdE G γ k) (st : StL G γ S n q) (u0 : 0 ≤ u) (ut : u ≤ t) (tn : t < n) (hc : Ed G (G 75 (q u)) c ∨ c < 0) : mdO γ c ≠ G 75 (q t) := by
  obtain ⟨o1, o2, o3, o4, o5, o6, o7⟩ := o
  obtain ⟨a, b, d, e⟩ := st
  have bt := b t (by omega) tn
  have bu := b u u0 (by omega)
  have le : q u ≤ q t := by
    by_cases w : u = t
    · rw [w]; exact Int.le_refl _
    · have := d u t u0 (by omega) tn; omega
  unfold mdO
  rcases hc with hc | hc
  · rw [if_pos hc.1]
    obtain ⟨i, i1, i2, i3⟩ := o4 (q u) bu.1.1 bu.1.2 c hc
    obtain ⟨_, ⟨k, k1, k2, k3⟩, _⟩ := md i i1 (by omega)
    rw [i3] at k3
    rw [k3]
    intro w
    have := o2 k (q t) k1 (by omega) bt.1.1 bt.1.2 w
    omega
  · rw [if_neg (by omega)]
    intro w
    rw [← w] at bt
    exact bt.2.1.1 o6
def RsE (G γ γ' : St) (s : Int) : Int := rsF (G 54 s) (γ' 79 (mdO γ (G 55 s))) (γ' 79 (mdO γ (G 56 s))) (γ' 79 (mdO γ (G 57 s))) (G 58 s) (γ 81) (γ 86 (γ 62 (G 58 s)))
/-- the steps before t are done -/
def RsJ (G γ γ' : St) (t : Int) (q : Int → Int) : Prop := (∀ j k, j ≠ 79 → γ' j k = γ j k) ∧ (∀ s, (∀ u, 0 ≤ u → u < t → G 75 (q u) ≠ s) → γ' 79 s = γ 79 s) ∧ ∀ u, 0 ≤ u → u < t → γ' 79 (G 75 (q u)) = RsE G γ γ' (G 75 (q u))
theorem ed3 (G : St) (s : Int) : (Ed G s (G 55 s) ∨ G 55 s < 0) ∧ (Ed G s (G 56 s) ∨ G 56 s < 0) ∧ (Ed G s (G 57 s) ∨ G 57 s < 0) := by
  refine ⟨?_, ?_, ?_⟩
  · by_cases w : 0 ≤ G 55 s
    · exact Or.inl ⟨w, Or.inl rfl⟩
    · exact Or.inr (by omega)
  · by_cases w : 0 ≤ G 56 s
    · exact Or.inl ⟨w, Or.inr (Or.inl rfl)⟩
    · exact Or.inr (by omega)
  · by_cases w : 0 ≤ G 57 s
    · exact Or.inl ⟨w, Or.inr (Or.inr rfl)⟩
    · exact Or.inr (by omega)
theorem rn_L35 {G γ : St} {S n N i : Int} {q : Int → Int} {e70 : St → Int → Int → Option (Int × St)} {Q : Int × St → Prop} (o : OrdX G S) (md : ∀ k, 0 ≤ k → k < S → MdE G γ k) (st : StL G γ S n q) (hQ : ∀ γ', RsJ G γ γ' n q → pc (e70 γ' N i) Q) : ∀ (m : Nat) (γ' : St) (t : Int), RsJ G γ γ' t q → 0 ≤ t → t ≤ n → pc (f_Pg_run_L35 e70 m γ' N i (6 * t)) Q := by
  have st' := st
  obtain ⟨⟨n0, n9⟩, sb, sd, se⟩ := st'
  intro m
  induction m with
  | zero => intro γ' t _ _ _; exact pc_n
  | succ m ih =>
    intro γ' t h t0 t1
    have ⟨f, v, r⟩ := h
    unfold f_Pg_run_L35
    rw [f 11 9 (by omega), n9]
    refine pc_i (fun c => hQ γ' (by rw [show n = t by omega]; exact h)) (fun c => pc_c (fun _ => pc_c (fun _ => pc_b res_pc (fun r1 γ1 w => ?_))))
    cases w
    have bt := sb t t0 (by omega)
    obtain ⟨e0, e1, e2, e3, e4, e5, e6⟩ := bt.2
    have f80 : ∀ k, γ' 80 k = γ 80 k := fun k => f 80 k (by omega)
    rw [f80, f80, f80, f80, f80, f80, e1, e2, e3, e4, e5, e6, show γ' 81 = γ 81 from funext fun k => f 81 k (by omega), f 62 _ (by omega), f 86 _ (by omega)]
    refine pc_c (fun _ => pc_a (pc_c (fun _ => ?_)))
    rw [show 6 * t + 6 = 6 * (t + 1) by omega]
    have s : ∀ j k, setA γ' 79 (G 75 (q t)) (RsE G γ γ' (G 75 (q t))) j k = if j = 79 ∧ k = G 75 (q t) then RsE G γ γ' (G 75 (q t)) else γ' j k := fun j k => by rw [stA]
    show pc (f_Pg_run_L35 e70 m (setA γ' 79 (G 75 (q t)) (RsE G γ γ' (G 75 (q t)))) N i (6 * (t + 1))) Q
    generalize setA γ' 79 (G 75 (q t)) (RsE G γ γ' (G 75 (q t))) = γ2 at *
    have ag : ∀ u, 0 ≤ u → u ≤ t → RsE G γ γ2 (G 75 (q u)) = RsE G γ γ' (G 75 (q u)) := fun u w1 w2 => by
      have e := ed3 G (G 75 (q u))
      have g : ∀ x, x ≠ G 75 (q t) → γ2 79 x = γ' 79 x := fun x w => by rw [s, if_neg (fun z => w z.2)]
      unfold RsE
      rw [g _ (sd_ne o md st w1 w2 (by omega) e.1), g _ (sd_ne o md st w1 w2 (by omega) e.2.1), g _ (sd_ne o md st w1 w2 (by omega) e.2.2)]
    refine ih γ2 (t + 1) ⟨fun j k w => by rw [s, if_neg (fun z => w z.1)]; exact f j k w, fun x w => ?_, fun u w1 w2 => ?_⟩ (by omega) (by omega)
    · rw [s, if_neg (fun z => w t t0 (by omega) z.2.symm)]
      exact v x (fun u a1 a2 => w u a1 (by omega))
    · by_cases e : u = t
      · rw [e, s, if_pos ⟨rfl, rfl⟩]; exact (ag t t0 (Int.le_refl _)).symm
      · have bu := sb u w1 (by omega)
        have lt := sd u t w1 (by omega) (by omega)
        rw [ag u w1 (by omega), s, if_neg (fun z => by have := o.2.1 _ _ bu.1.1 bu.1.2 bt.1.1 bt.1.2 z.2; omega)]
        exact r u w1 (by omega)
theorem tc_L2 {γ0 : St} (m84 : ∀ m, 1 ≤ m → m < γ0 11 17 → 0 ≤ γ0 84 m ∧ γ0 84 m < m) : ∀ (n : Nat) (γ : St) (i : Int), (∀ j k, j ≠ 87 → γ j k = γ0 j k) → γ 87 0 = γ0 87 0 → (∀ m, 1 ≤ m → m < i → γ 87 m = if γ0 79 (γ0 85 m) ≠ γ0 86 m then 0 else γ 87 (γ0 84 m)) → 1 ≤ i → pc (f_Pg_turnClocks_L2 n γ i) (fun z => (∀ j k, j ≠ 87 → z.2 j k = γ0 j k) ∧ z.2 87 0 = γ0 87 0 ∧ ∀ m, 1 ≤ m → m < γ0 11 17 → z.2 87 m = if γ0 79 (γ0 85 m) ≠ γ0 86 m then 0 else z.2 87 (γ0 84 m)) := by
  intro n
  induction n with
  | zero => intro γ i _ _ _ _; exact pc_n
  | succ n ih =>
    intro γ i f h0 h1 h2
    unfold f_Pg_turnClocks_L2
    rw [f 11 17 (by omega), f 85 i (by omega), f 79 _ (by omega), f 86 i (by omega), f 84 i (by omega)]
    refine pc_i (fun c => pc_s ⟨f, h0, fun m w1 w2 => h1 m w1 (by omega)⟩) (fun c => ?_)
    have nx : ∀ v, v = (if γ0 79 (γ0 85 i) ≠ γ0 86 i then 0 else γ 87 (γ0 84 i)) → pc (f_Pg_turnClocks_b50 (f_Pg_turnClocks_L2 n) γ i v i) (fun z => (∀ j k, j ≠ 87 → z.2 j k = γ0 j k) ∧ z.2 87 0 = γ0 87 0 ∧ ∀ m, 1 ≤ m → m < γ0 11 17 → z.2 87 m = if γ0 79 (γ0 85 m) ≠ γ0 86 m then 0 else z.2 87 (γ0 84 m)) := fun v hv => by
      unfold f_Pg_turnClocks_b50
      refine pc_c (fun _ => pc_a (pc_c (fun _ => ?_)))
      have s : ∀ j k, setA γ 87 i v j k = if j = 87 ∧ k = i then v else γ j k := fun j k => by rw [stA]
      generalize setA γ 87 i v = γ1 at *
      refine ih γ1 (i + 1) (fun j k w => by rw [s, if_neg (by omega)]; exact f j k w) (by rw [s, if_neg (by omega)]; exact h0) (fun m w1 w2 => ?_) (by omega)
      by_cases e : m = i
      · rw [e]
        have b := m84 i h2 (by omega)
        rw [show γ1 87 i = v by rw [s, if_pos ⟨rfl, rfl⟩], show γ1 87 (γ0 84 i) = γ 87 (γ0 84 i) by rw [s, if_neg (by omega)]]; exact hv
      · have b := m84 m w1 (by omega)
        rw [show γ1 87 m = γ 87 m by rw [s, if_neg (by omega)], show γ1 87 (γ0 84 m) = γ 87 (γ0 84 m) by rw [s, if_neg (by omega)]]
        exact h1 m w1 (by omega)
    exact pc_c (fun _ => pc_c (fun _ => pc_c (fun _ => pc_i (fun c2 => nx 0 (by rw [if_pos c2])) (fun c2 => pc_c (fun _ => pc_c (fun _ => nx _ (by rw [if_neg c2])))))))
theorem fc_L2 {γ0 : St} : ∀ (n : Nat) (γ : St) (i : Int), (∀ j k, j ≠ 81 → γ j k = γ0 j k) → (∀ k, 0 ≤ k → k < i → γ 81 k = if γ0 87 (γ0 62 k) ≠ 1 then γ0 81 k else γ0 79 (γ0 61 k)) → (∀ k, i ≤ k → γ 81 k = γ0 81 k) → 0 ≤ i → pc (f_Pg_fillCells_L2 n γ i) (fun z => (∀ j k, j ≠ 81 → z.2 j k = γ0 j k) ∧ ∀ k, 0 ≤ k → k < γ0 8 11 → z.2 81 k = if γ0 87 (γ0 62 k) ≠ 1 then γ0 81 k else γ0 79 (γ0 61 k)) := by
  intro n
  induction n with
  | zero => intro γ i _ _ _ _; exact pc_n
  | succ n ih =>
    intro γ i f h1 h2 h3
    unfold f_Pg_fillCells_L2
    rw [f 8 11 (by omega), f 62 i (by omega), f 87 _ (by omega), f 61 i (by omega), f 79 _ (by omega)]
    refine pc_i (fun c => pc_s ⟨f, fun k w1 w2 => h1 k w1 (by omega)⟩) (fun c => pc_c (fun _ => pc_c (fun _ => pc_i (fun c2 => ?_) (fun c2 => ?_))))
    · unfold f_Pg_fillCells_b51
      refine pc_c (fun _ => ih γ (i + 1) f (fun k w1 w2 => ?_) (fun k w => h2 k (by omega)) (by omega))
      by_cases e : k = i
      · rw [e, if_pos c2]; exact h2 i (Int.le_refl _)
      · exact h1 k w1 (by omega)
    · refine pc_c (fun _ => pc_c (fun _ => pc_c (fun _ => pc_a ?_)))
      unfold f_Pg_fillCells_b51
      have s : ∀ j k, setA γ 81 i (γ0 79 (γ0 61 i)) j k = if j = 81 ∧ k = i then γ0 79 (γ0 61 i) else γ j k := fun j k => by rw [stA]
      generalize setA γ 81 i (γ0 79 (γ0 61 i)) = γ1 at *
      refine pc_c (fun _ => ih γ1 (i + 1) (fun j k w => by rw [s, if_neg (by omega)]; exact f j k w) (fun k w1 w2 => ?_) (fun k w => by rw [s, if_neg (by omega)]; exact h2 k (by omega)) (by omega))
      by_cases e : k = i
      · rw [e, if_neg c2, s, if_pos ⟨rfl, rfl⟩]
      · rw [s, if_neg (by omega)]; exact h1 k w1 (by omega)
def WV (γ : St) (s : Int) : Int := γ 79 (γ 78 s)
def OnC (γ : St) (c : Int) : Int := γ 87 (γ 83 c)
def WO (γ : St) (a : Int) : Int := if 0 ≤ a then WV γ a else γ 79 0
/-- what an instant is in the class: γ before it, γ' after it -/
def SmC (G γ γ' : St) (S V : Int) : Prop := ((∀ j k, j ≠ 79 → j ≠ 81 → j ≠ 87 → γ' j k = γ j k) ∧ PgX G γ' S V) ∧ (∀ s, 0 ≤ s → s < S → (G 54 s = 3 → WV γ' s = G 58 s) ∧ (G 54 s = 2 → 0 ≤ G 55 s → WV γ' s = WV γ' (G 55 s)) ∧ (G 54 s = 2 → G 55 s < 0 → WV γ' s = γ 79 s) ∧ (G 54 s ≠ 2 → G 54 s ≠ 3 → WV γ' s = rsF (G 54 s) (WO γ' (G 55 s)) (WO γ' (G 56 s)) (WO γ' (G 57 s)) (G 58 s) (γ 81) (γ 86 (γ 62 (G 58 s)))) ∧ (G 54 s = 2 → γ' 79 s = γ 79 s)) ∧ (OnC γ' 0 = 1 ∧ ∀ c, ClN G γ' c → OnC γ' c = if WV γ' (slC c) ≠ iand (c - 1) 1 then 0 else OnC γ' (G 59 (slC c))) ∧ ∀ i, 0 ≤ i → i < G 8 11 → γ' 81 i = if OnC γ' (G 62 i) ≠ 1 then γ 81 i else WV γ' (G 61 i)
theorem sm_inst {G γ : St} {S V N i : Int} {k27 : St → Int → Int → Option (Int × St)} {e84 : St → Option (Int × St)} {Q : Int × St → Prop} (o : OrdX G S) (h : PgX G γ S V) (hQ : ∀ γ', SmC G γ γ' S V → pc (k27 γ' N (i + 1)) Q) : ∀ m : Nat, pc (f_Pg_run_L35 (f_Pg_run_b70 k27 e84) m γ N i 0) Q := by
  intro m
  have h' := h
  obtain ⟨a, md, ⟨n, q, st⟩, ⟨d1, d2, d3, d4, d5⟩, e⟩ := h'
  have n0 := st.1.1
  refine rn_L35 (n := n) (q := q) o md st (fun γ1 w => ?_) m γ 0 ⟨fun _ _ _ => rfl, fun _ _ => rfl, fun u w1 w2 => by exfalso; omega⟩ (Int.le_refl _) n0
  obtain ⟨f1, v1, r1⟩ := w
  unfold f_Pg_run_b70
  have t := tc_L2 (γ0 := γ1) (fun m w1 w2 => by rw [f1 84 m (by omega)]; exact d3 m w1 (by rw [f1 11 17 (by omega)] at w2; exact w2)) FU γ1 1 (fun _ _ _ => rfl) rfl (fun m w1 w2 => by exfalso; omega) (Int.le_refl _)
  refine pc_b (c := f_Pg_turnClocks γ1) t (fun r γ2 w => ?_)
  obtain ⟨f2, z2, t2⟩ := w
  have f2 : ∀ j k, j ≠ 87 → γ2 j k = γ1 j k := f2
  have z2 : γ2 87 0 = γ1 87 0 := z2
  have t2 : ∀ m, 1 ≤ m → m < γ1 11 17 → γ2 87 m = if γ1 79 (γ1 85 m) ≠ γ1 86 m then 0 else γ2 87 (γ1 84 m) := t2
  have c := fc_L2 (γ0 := γ2) FU γ2 0 (fun _ _ _ => rfl) (fun m w1 w2 => by exfalso; omega) (fun _ _ => rfl) (Int.le_refl _)
  refine pc_b (c := f_Pg_fillCells γ2) c (fun r γ3 w => pc_c (fun _ => hQ γ3 ?_))
  obtain ⟨f3, c3⟩ := w
  have f3 : ∀ j k, j ≠ 81 → γ3 j k = γ2 j k := f3
  have c3 : ∀ k, 0 ≤ k → k < γ2 8 11 → γ3 81 k = if γ2 87 (γ2 62 k) ≠ 1 then γ2 81 k else γ2 79 (γ2 61 k) := c3
  have F : ∀ j k, j ≠ 79 → j ≠ 81 → j ≠ 87 → γ3 j k = γ j k := fun j k w1 w2 w3 => by rw [f3 j k w2, f2 j k w3, f1 j k w1]
  have e79 : ∀ k, γ3 79 k = γ1 79 k := fun k => by rw [f3 79 k (by omega), f2 79 k (by omega)]
  have e78 : ∀ k, γ3 78 k = γ 78 k := fun k => F 78 k (by omega) (by omega) (by omega)
  have e83 : ∀ k, γ3 83 k = γ 83 k := fun k => F 83 k (by omega) (by omega) (by omega)
  have e87 : ∀ k, γ3 87 k = γ2 87 k := fun k => f3 87 k (by omega)
  -- slots that no step makes
  have nop : ∀ s, (G 54 s = 2 ∨ G 54 s = 3) → γ1 79 s = γ 79 s := fun s w => v1 s (fun u a1 a2 w2 => by
    have b := (st.2.1 u a1 a2).2.1
    rw [w2] at b
    omega)
  have P : PgX G γ3 S V := h.fr (fun j k w1 w2 w3 w4 w5 w6 w7 w8 w9 w10 w11 w12 => F j k w9 w10 w12) ⟨F 11 9 (by omega) (by omega) (by omega), F 11 17 (by omega) (by omega) (by omega)⟩ (fun s w => by rw [e79]; exact nop s (Or.inr w)) (by rw [e87, z2, f1 87 0 (by omega)])
  have mdw : ∀ x, γ3 79 (mdO γ x) = WO γ3 x := fun x => by
    unfold mdO WO WV
    by_cases w : 0 ≤ x
    · rw [if_pos w, if_pos w, e78]
    · rw [if_neg w, if_neg w]
  refine ⟨⟨F, P⟩, fun s s0 s1 => ?_, ⟨?_, fun c w => ?_⟩, fun k w1 w2 => ?_⟩
  · obtain ⟨k, k1, k2, k3⟩ := o.2.2.1 s s0 s1
    have m := md k k1 k2
    unfold MdE at m
    rw [k3] at m
    obtain ⟨m1, ⟨i2, i3, i4, i5⟩, m2⟩ := m
    refine ⟨fun w => ?_, fun w w2 => ?_, fun w w2 => ?_, fun w w2 => ?_, fun w => by rw [e79]; exact nop s (Or.inl w)⟩
    · unfold WV
      rw [if_neg (by omega)] at m1
      rw [e78, m1, e79, nop s (Or.inr w)]; exact m2 w
    · unfold WV
      rw [if_pos ⟨w, w2⟩] at m1
      rw [e78, e78, m1]
    · unfold WV
      rw [if_neg (by omega)] at m1
      rw [e78, m1, e79, nop s (Or.inl w)]
    · obtain ⟨t, t1, t2, t3⟩ := st.2.2.2 k k1 k2 (by rw [k3]; exact w) (by rw [k3]; exact w2)
      have r := r1 t t1 t2
      rw [t3, k3] at r
      rw [if_neg (fun z => w z.1)] at m1
      show γ3 79 (γ3 78 s) = _
      rw [e78, m1, e79, r]
      unfold RsE
      rw [← mdw, ← mdw, ← mdw, e79, e79, e79]
  · show γ3 87 (γ3 83 0) = 1
    rw [e83, d1, e87, z2, f1 87 0 (by omega)]; exact d2
  · obtain ⟨c1, c2, c4, c5⟩ := w
    have x17 : γ3 11 17 = γ1 11 17 := by rw [F 11 17 (by omega) (by omega) (by omega), f1 11 17 (by omega)]
    have x := t2 (γ3 83 c) c1.1 (by rw [← x17]; exact c1.2)
    show γ3 87 (γ3 83 c) = _
    have y84 : γ1 84 (γ3 83 c) = γ3 83 (G 59 (slC c)) := by rw [← c2, F 84 _ (by omega) (by omega) (by omega), f1 84 _ (by omega)]
    have y85 : γ1 85 (γ3 83 c) = γ3 78 (slC c) := by rw [← c4, F 85 _ (by omega) (by omega) (by omega), f1 85 _ (by omega)]
    have y86 : γ1 86 (γ3 83 c) = iand (c - 1) 1 := by rw [← c5, F 86 _ (by omega) (by omega) (by omega), f1 86 _ (by omega)]
    rw [e87, x, y84, y85, y86, ← e79, ← e87]
    rfl
  · have x := c3 k w1 (by rw [f2 8 11 (by omega), f1 8 11 (by omega), a 8 11 (by omega) (by omega) (by omega) (by omega) (by omega) (by omega) (by omega)]; exact w2)
    have ek := e k w1 w2
    rw [x, ← e87, f2 62 k (by omega), f1 62 k (by omega), ek.2, f2 61 k (by omega), f1 61 k (by omega), ek.1, f2 81 k (by omega), f1 81 k (by omega), f2 79 _ (by omega), ← e79]
    unfold OnC WV
    rw [e83, e78]
/-- what is shown -/
theorem rn_L86 {γ0 : St} : ∀ (n : Nat) (γ : St) (i : Int), (∀ j k, j ≠ 76 → γ j k = γ0 j k) → (∀ k, 0 ≤ k → k < i → γ 76 k = if OnC γ0 (γ0 59 k) ≠ 1 then 1099511627776 else WV γ0 k) → 0 ≤ i → pc (f_Pg_run_L86 n γ i) (fun z => (∀ j k, j ≠ 76 → z.2 j k = γ0 j k) ∧ ∀ k, 0 ≤ k → k < γ0 11 5 → z.2 76 k = if OnC γ0 (γ0 59 k) ≠ 1 then 1099511627776 else WV γ0 k) := by
  intro n
  induction n with
  | zero => intro γ i _ _ _; exact pc_n
  | succ n ih =>
    intro γ i f h1 h3
    unfold f_Pg_run_L86
    rw [f 11 5 (by omega), f 59 i (by omega), f 83 _ (by omega), f 87 _ (by omega), f 78 i (by omega), f 79 _ (by omega)]
    refine pc_i (fun c => pc_s ⟨f, fun k w1 w2 => h1 k w1 (by omega)⟩) (fun c => ?_)
    have nx : ∀ v, v = (if OnC γ0 (γ0 59 i) ≠ 1 then 1099511627776 else WV γ0 i) → pc (f_Pg_run_b140 (f_Pg_run_L86 n) γ i v i) (fun z => (∀ j k, j ≠ 76 → z.2 j k = γ0 j k) ∧ ∀ k, 0 ≤ k → k < γ0 11 5 → z.2 76 k = if OnC γ0 (γ0 59 k) ≠ 1 then 1099511627776 else WV γ0 k) := fun v hv => by
      unfold f_Pg_run_b140
      refine pc_c (fun _ => pc_a (pc_c (fun _ => ?_)))
      have s : ∀ j k, setA γ 76 i v j k = if j = 76 ∧ k = i then v else γ j k := fun j k => by rw [stA]
      generalize setA γ 76 i v = γ1 at *
      refine ih γ1 (i + 1) (fun j k w => by rw [s, if_neg (by omega)]; exact f j k w) (fun k w1 w2 => ?_) (by omega)
      by_cases e : k = i
      · rw [e, s, if_pos ⟨rfl, rfl⟩]; exact hv
      · rw [s, if_neg (by omega)]; exact h1 k w1 (by omega)
    exact pc_c (fun _ => pc_c (fun _ => pc_c (fun _ => pc_i (fun c2 => nx _ (if_pos (c := OnC γ0 (γ0 59 i) ≠ 1) c2).symm) (fun c2 => pc_c (fun _ => pc_c (fun _ => nx _ (if_neg (c := OnC γ0 (γ0 59 i) ≠ 1) c2).symm))))))
theorem rn_L2 {γ0 : St} {N : Int} {e25 : St → Int → Option (Int × St)} {Q : Int × St → Prop} (hQ : ∀ γ, (∀ j k, j ≠ 79 → γ j k = γ0 j k) → (∀ k, 0 ≤ k → k < γ0 11 4 → γ 79 k = γ0 12 k) → (∀ k, k < 0 ∨ γ0 11 4 ≤ k → γ 79 k = γ0 79 k) → pc (e25 γ N) Q) : ∀ (n : Nat) (γ : St) (i : Int), (∀ j k, j ≠ 79 → γ j k = γ0 j k) → (∀ k, 0 ≤ k → k < i → γ 79 k = γ0 12 k) → (∀ k, k < 0 ∨ i ≤ k → γ 79 k = γ0 79 k) → 0 ≤ i → i ≤ γ0 11 4 → pc (f_Pg_run_L2 e25 n γ N i) Q := by
  intro n
  induction n with
  | zero => intro γ i _ _ _ _ _; exact pc_n
  | succ n ih =>
    intro γ i f h1 h2 h3 h4
    unfold f_Pg_run_L2
    rw [f 11 4 (by omega), f 12 i (by omega)]
    refine pc_i (fun c => hQ γ f (fun k w1 w2 => h1 k w1 (by omega)) (fun k w => h2 k (by omega))) (fun c => pc_c (fun _ => pc_c (fun _ => pc_a (pc_c (fun _ => ?_)))))
    have s : ∀ j k, setA γ 79 i (γ0 12 i) j k = if j = 79 ∧ k = i then γ0 12 i else γ j k := fun j k => by rw [stA]
    generalize setA γ 79 i (γ0 12 i) = γ1 at *
    refine ih γ1 (i + 1) (fun j k w => by rw [s, if_neg (by omega)]; exact f j k w) (fun k w1 w2 => ?_) (fun k w => by rw [s, if_neg (by omega)]; exact h2 k (by omega)) (by omega) (by omega)
    by_cases e : k = i
    · rw [e, s, if_pos ⟨rfl, rfl⟩]
    · rw [s, if_neg (by omega)]; exact h1 k w1 (by omega)
