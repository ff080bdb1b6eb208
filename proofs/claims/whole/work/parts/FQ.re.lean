/-! the class: what causes what, exactly -/
/-- what is marked is reached; the first i of the path have their causes marked -/
def ReX (γ0 : St) (a : Int) (γ : St) (u i : Int) : Prop := (∀ s, 0 ≤ s → s < γ0 8 5 → γ 74 s = γ0 10 12 → Rc (Ed γ0) a s ∧ ∃ k, 0 ≤ k ∧ k < u ∧ γ 73 k = s) ∧ (∀ k, 0 ≤ k → k < u → γ 74 (γ 73 k) = γ0 10 12) ∧ (∀ k, 0 ≤ k → k < i → ∀ c, Ed γ0 (γ 73 k) c → γ 74 c = γ0 10 12) ∧ γ 74 a = γ0 10 12
theorem x_re_L53 {γ0 : St} {a b i : Int} {e124 : St → Int → Int → Int → Option (Int × St)} {Q : Int × St → Prop} (hX : ∀ s j, 0 ≤ s → s < γ0 8 5 → 0 ≤ j → j < 3 → -1 ≤ sdV γ0 s j ∧ sdV γ0 s j < γ0 8 5) (hS : 0 ≤ γ0 8 5 ∧ γ0 8 5 ≤ 9001) (hQ : ∀ γ u', ReI γ0 γ u' → ReX γ0 a γ u' (i + 1) → i < u' → pc (e124 γ b u' i) Q) : ∀ (n : Nat) (γ : St) (u j : Int), ReI γ0 γ u → ReX γ0 a γ u i → (∀ t, 0 ≤ t → t < j → 0 ≤ sdV γ0 (γ 73 i) t → γ 74 (sdV γ0 (γ 73 i) t) = γ0 10 12) → 0 ≤ i → i < u → 0 ≤ j → j ≤ 3 → pc (f_Od_reaches_L53 e124 n γ b u i j) Q := by
  intro n
  induction n with
  | zero => intro γ u j _ _ _ _ _ _ _; exact pc_n
  | succ n ih =>
    intro γ u j h hx hj h1 h2 h3 h4
    have ul := h.le hS.1
    obtain ⟨x1, x2, x3, x4⟩ := hx
    unfold f_Od_reaches_L53
    refine pc_i (fun q => hQ γ u h ⟨x1, x2, fun k k1 k2 c hc => ?_, x4⟩ h2) (fun c => ?_)
    · by_cases z : k = i
      · rw [z] at hc
        obtain ⟨t, t1, t2, t3⟩ := hc.to
        have := hj t t1 (by omega) (by rw [t3]; exact hc.1)
        rw [t3] at this
        exact this
      · exact x3 k k1 (by omega) c hc
    have p := h.2.2.2 i h1 h2
    have es : sdV γ (γ 73 i) j = sdV γ0 (γ 73 i) j := by unfold sdV; rw [h.1 55 _ (by omega) (by omega), h.1 56 _ (by omega) (by omega), h.1 57 _ (by omega) (by omega)]
    have sd := hX (γ 73 i) j p.1 p.2 h3 (by omega)
    refine pc_c (fun _ => ?_)
    rw [bndN_eq (side_eq (by omega)), es]
    have e12 := h.1 10 12 (by omega) (by omega)
    have nx : ∀ γ2 u2, ReI γ0 γ2 u2 → ReX γ0 a γ2 u2 i → (∀ t, 0 ≤ t → t < j + 1 → 0 ≤ sdV γ0 (γ2 73 i) t → γ2 74 (sdV γ0 (γ2 73 i) t) = γ0 10 12) → i < u2 → pc (f_Od_reaches_b118 (f_Od_reaches_L53 e124 n) e124 γ2 b u2 i j) Q := fun γ2 u2 q1 q2 q3 q4 => by
      unfold f_Od_reaches_b118
      exact pc_c (fun _ => ih γ2 u2 (j + 1) q1 q2 q3 h1 q4 (by omega) (by omega))
    refine pc_i (fun c0 => nx γ u h ⟨x1, x2, x3, x4⟩ (fun t t1 t2 t3 => ?_) h2) (fun c0 => pc_c (fun _ => pc_i (fun c1 => nx γ u h ⟨x1, x2, x3, x4⟩ (fun t t1 t2 t3 => ?_) h2) (fun c1 => ?_)))
    · by_cases z : t = j
      · rw [z] at t3; omega
      · exact hj t t1 (by omega) t3
    · by_cases z : t = j
      · rw [z, c1]; exact e12
      · exact hj t t1 (by omega) t3
    have hed : Ed γ0 (γ 73 i) (sdV γ0 (γ 73 i) j) := Ed.of (by omega) ⟨h3, by omega⟩
    have hxi := x1 (γ 73 i) p.1 p.2 (x2 i h1 h2)
    generalize hc : sdV γ0 (γ 73 i) j = c at *
    rw [e12] at c1 ⊢
    refine pc_c (fun _ => pc_a (pc_c (fun _ => pc_a (pc_c (fun _ => ?_)))))
    have s2 : ∀ jj k, setA (setA γ 74 c (γ0 10 12)) 73 u c jj k = if jj = 73 ∧ k = u then c else if jj = 74 ∧ k = c then γ0 10 12 else γ jj k := fun jj k => by rw [stA, stA]
    generalize setA (setA γ 74 c (γ0 10 12)) 73 u c = γ2 at *
    have mk : sm (mkW γ2) 0 (γ0 8 5) = u + 1 := by
      have k12 : γ2 10 12 = γ0 10 12 := by rw [s2]; simp; exact e12
      rw [sm_upd (f := mkW γ2) (g := mkW γ) (c := c) (by omega) (by omega) (fun x _ _ q => by unfold mkW; rw [k12, e12, s2]; simp [q]), h.2.1]
      have m1 : mkW γ c = 0 := by unfold mkW; rw [e12, if_neg c1]
      have m2 : mkW γ2 c = 1 := by unfold mkW; rw [k12, s2]; simp
      omega
    have a73 : ∀ k, k ≠ u → γ2 73 k = γ 73 k := fun k q => by rw [s2, if_neg (by omega), if_neg (by omega)]
    have b73 : γ2 73 u = c := by rw [s2, if_pos ⟨rfl, rfl⟩]
    have a74 : ∀ k, γ 74 k = γ0 10 12 → γ2 74 k = γ0 10 12 := fun k q => by
      rw [s2, if_neg (by omega)]
      by_cases z : k = c
      · rw [if_pos ⟨rfl, z⟩]
      · rw [if_neg (fun w => z w.2)]; exact q
    have c74 : γ2 74 c = γ0 10 12 := by rw [s2, if_neg (by omega), if_pos ⟨rfl, rfl⟩]
    have d74 : ∀ k, k ≠ c → γ2 74 k = γ 74 k := fun k q => by rw [s2, if_neg (by omega), if_neg (fun w => q w.2)]
    refine nx γ2 (u + 1) ⟨fun jj k q1 q2 => by rw [s2, if_neg (by omega), if_neg (by omega)]; exact h.1 jj k q1 q2, mk, fun s q1 q2 => ?_, fun x q1 q2 => ?_⟩ ⟨fun s q1 q2 q3 => ?_, fun k q1 q2 => ?_, fun k q1 q2 d hd => ?_, a74 a x4⟩ (fun t t1 t2 t3 => ?_) (by omega)
    · by_cases z : s = c
      · rw [z, c74]
        have := h.2.2.1 c (by omega) (by omega)
        omega
      · rw [d74 s z]; exact h.2.2.1 s q1 q2
    · by_cases z : x = u
      · rw [z, b73]; omega
      · rw [a73 x z]; exact h.2.2.2 x q1 (by omega)
    · by_cases z : s = c
      · rw [z]; exact ⟨hxi.1.tr (Rc.ed hed), u, by omega, by omega, b73⟩
      · rw [d74 s z] at q3
        obtain ⟨w1, k, w2, w3, w4⟩ := x1 s q1 q2 q3
        exact ⟨w1, k, w2, by omega, by rw [a73 k (by omega)]; exact w4⟩
    · by_cases z : k = u
      · rw [z, b73]; exact c74
      · rw [a73 k z]; exact a74 _ (x2 k q1 (by omega))
    · rw [a73 k (by omega)] at hd
      exact a74 _ (x3 k q1 q2 d hd)
    · rw [a73 i (by omega)] at t3 ⊢
      by_cases z : t = j
      · rw [z, hc]; exact c74
      · exact a74 _ (hj t t1 (by omega) t3)
theorem x_re_L32 {γ0 : St} {a b : Int} (hX : ∀ s j, 0 ≤ s → s < γ0 8 5 → 0 ≤ j → j < 3 → -1 ≤ sdV γ0 s j ∧ sdV γ0 s j < γ0 8 5) (ha : 0 ≤ a ∧ a < γ0 8 5) (hb : 0 ≤ b ∧ b < γ0 8 5) (hS : 0 ≤ γ0 8 5 ∧ γ0 8 5 ≤ 9001) : ∀ (n : Nat) (γ : St) (u i : Int), ReI γ0 γ u → ReX γ0 a γ u i → 0 ≤ i → i ≤ u → pc (f_Od_reaches_L32 f_Od_reaches_b130 n γ b u i) (fun z => (z.1 = 1 ∧ Rc (Ed γ0) a b) ∨ (z.1 = 0 ∧ ¬ Rc (Ed γ0) a b)) := by
  intro n
  induction n with
  | zero => intro γ u i _ _ _ _; exact pc_n
  | succ n ih =>
    intro γ u i h hx h1 h2
    have ul := h.le hS.1
    have e12 := h.1 10 12 (by omega) (by omega)
    have fin : u ≤ i → pc (f_Od_reaches_b130 γ b) (fun z => (z.1 = 1 ∧ Rc (Ed γ0) a b) ∨ (z.1 = 0 ∧ ¬ Rc (Ed γ0) a b)) := fun le => by
      obtain ⟨x1, x2, x3, x4⟩ := hx
      unfold f_Od_reaches_b130
      rw [e12]
      refine pc_c (fun _ => pc_i (fun q => pc_s (Or.inr ⟨rfl, fun r => q ?_⟩)) (fun q => pc_s (Or.inl ⟨rfl, (x1 b hb.1 hb.2 (by omega)).1⟩)))
      have cl := Rc.cl (E := Ed γ0) (P := fun s => (0 ≤ s ∧ s < γ0 8 5) ∧ γ 74 s = γ0 10 12) (fun s c p e => ?_) r ⟨ha, x4⟩
      · exact cl.2
      · obtain ⟨k, k1, k2, k3⟩ := (x1 s p.1.1 p.1.2 p.2).2
        obtain ⟨t, t1, t2, t3⟩ := e.to
        have := hX s t p.1.1 p.1.2 t1 t2
        rw [t3] at this
        exact ⟨⟨e.1, this.2⟩, x3 k k1 (by omega) c (by rw [k3]; exact e)⟩
    unfold f_Od_reaches_L32
    rw [h.1 8 5 (by omega) (by omega)]
    refine pc_i (fun q => fin q) (fun q => pc_i (fun q2 => fin (by omega)) (fun q2 => ?_))
    refine x_re_L53 hX hS (fun γ2 u2 q1 q3 q4 => ?_) FU γ u 0 h hx (fun t t1 t2 => by exfalso; omega) h1 (by omega) (Int.le_refl _) (by omega)
    unfold f_Od_reaches_b124
    exact pc_c (fun _ => ih γ2 u2 (i + 1) q1 q3 (by omega) (by omega))
theorem x_reaches {γ : St} {a b c : Int} (hP : PgI γ) (hA : AskI c γ) (ha : 0 ≤ a ∧ a < γ 8 5) (hb : 0 ≤ b ∧ b < γ 8 5) : pc (f_Od_reaches γ a b) (fun z => (z.1 = 1 ∧ Rc (Ed γ) a b) ∨ (z.1 = 0 ∧ ¬ Rc (Ed γ) a b)) := by
  have ⟨k1, k2⟩ := hA
  have p3 := hP.2.2.1
  have p2 := hP.2.1
  unfold f_Od_reaches
  refine pc_c (fun _ => pc_a (pc_c (fun _ => pc_a (pc_c (fun _ => pc_a ?_)))))
  have s0 : setA (setA γ 10 12 (γ 10 12 + 1)) 73 0 a 10 12 = γ 10 12 + 1 := by simp [stA]
  rw [s0]
  have u : ∀ j k, setA (setA (setA γ 10 12 (γ 10 12 + 1)) 73 0 a) 74 a (γ 10 12 + 1) j k = if j = 74 ∧ k = a then γ 10 12 + 1 else if j = 73 ∧ k = 0 then a else if j = 10 ∧ k = 12 then γ 10 12 + 1 else γ j k := fun j k => by rw [stA, stA, stA]
  generalize setA (setA (setA γ 10 12 (γ 10 12 + 1)) 73 0 a) 74 a (γ 10 12 + 1) = γ1 at *
  have g85 : γ1 8 5 = γ 8 5 := by rw [u]; simp
  have g12 : γ1 10 12 = γ 10 12 + 1 := by rw [u]; simp
  have g73 : γ1 73 0 = a := by rw [u, if_neg (by omega), if_pos ⟨rfl, rfl⟩]
  have ga : γ1 74 a = γ 10 12 + 1 := by rw [u, if_pos ⟨rfl, rfl⟩]
  have go : ∀ s, s ≠ a → γ1 74 s = γ 74 s := fun s q => by rw [u, if_neg (fun r => q r.2), if_neg (by omega), if_neg (by omega)]
  have uo : ∀ (j : Nat) k, j ≠ 74 → j ≠ 73 → j ≠ 10 → γ1 j k = γ j k := fun j k a b c => by rw [u, if_neg (by omega), if_neg (by omega), if_neg (by omega)]
  have r55 : γ1 55 = γ 55 := funext fun k => uo 55 k (by omega) (by omega) (by omega)
  have r56 : γ1 56 = γ 56 := funext fun k => uo 56 k (by omega) (by omega) (by omega)
  have r57 : γ1 57 = γ 57 := funext fun k => uo 57 k (by omega) (by omega) (by omega)
  have sdE : ∀ s j, sdV γ1 s j = sdV γ s j := fun s j => by unfold sdV; rw [r55, r56, r57]
  have edE : Ed γ1 = Ed γ := funext fun s => funext fun c => by unfold Ed; rw [r55, r56, r57]
  have hR : ReI γ1 γ1 1 := by
    refine ⟨fun _ _ _ _ => rfl, ?_, fun s q1 q2 => ?_, fun i q1 q2 => ?_⟩
    · rw [sm_upd (f := mkW γ1) (g := fun _ => 0) (c := a) ha.1 (by omega) (fun x q1 q2 q => by
        unfold mkW
        have := k2 x q1 (by omega)
        rw [g12, go x q, if_neg (by omega)])]
      have m : mkW γ1 a = 1 := by unfold mkW; rw [g12, ga, if_pos rfl]
      have z : sm (fun _ => (0 : Int)) 0 (γ1 8 5) = 0 := sm_z (fun _ _ _ => rfl)
      omega
    · rw [g85] at q2
      by_cases q : s = a
      · rw [q, ga, g12]; omega
      · rw [go s q, g12]
        have := k2 s q1 q2
        omega
    · have : i = 0 := by omega
      rw [this, g73]; omega
  have hX : ReX γ1 a γ1 1 0 := by
    refine ⟨fun s q1 q2 q3 => ?_, fun k q1 q2 => ?_, fun k q1 q2 => by exfalso; omega, by rw [ga, g12]⟩
    · by_cases q : s = a
      · rw [q]; exact ⟨Rc.rf, 0, Int.le_refl _, by omega, g73⟩
      · rw [go s q, g12] at q3
        have := k2 s q1 (by omega)
        omega
    · rw [show k = 0 by omega, g73, ga, g12]
  have key := x_re_L32 (a := a) (b := b) (γ0 := γ1) (fun s j q1 q2 q3 q4 => by rw [sdE, g85]; exact hP.2.2.2.2.2.2.2.2.2.2.2 s j q1 (by omega) q3 q4) (by omega) (by omega) (by omega) FU γ1 1 0 hR hX (Int.le_refl _) (by omega)
  rw [edE] at key
  exact key
