/-! equality: types of parts -/
theorem Sg.nil_of {p : Int → Int} {a : Int} : ∀ {ks : List Int}, Sg p a ks a → ks = []
  | [], _ => rfl
  | y :: t, h => by have := (Sg.mem h y List.mem_cons_self); exfalso; omega
theorem Sg.uniq {p : Int → Int} {ks ms : List Int} {lo hi : Int} (h : Sg p lo ks hi) (g : Sg p lo ms hi) : ks = ms := by
  obtain ⟨k, e, s⟩ := Sg.split _ rfl h g (Int.le_refl _)
  rw [e, s.nil_of]; rfl
theorem kd_c {c k : Int} (h : kdM c = k) (hk : 0 ≤ k) : k = 0 ∧ c = 3 ∨ k = 1 ∧ (c = 40 ∨ c = 41) ∨ k = 2 ∧ c = 2 ∨ k = 3 ∧ c = 43 ∨ k = 4 ∧ c = 32 ∨ k = 5 ∧ c = 18 ∨ k = 6 ∧ c = 37 ∨ k = 7 ∧ c = 19 ∨ k = 8 ∧ c = 30 ∨ k = 9 ∧ c = 31 ∨ k = 10 ∧ c = 29 ∨ (11 ≤ k ∧ k ≤ 19 ∧ c = k - 2) ∨ k = 20 ∧ c = 38 ∨ k = 21 ∧ c = 39 ∨ k = 22 ∧ c = 42 ∨ k = 23 ∧ c = 28 ∨ k = 24 ∧ c = 35 ∨ k = 25 ∧ c = 36 ∨ k = 26 ∧ c = 27 := by
  unfold kdM at h
  by_cases q : 9 ≤ c ∧ c ≤ 17
  · rw [if_pos q] at h
    exact Or.inr (Or.inr (Or.inr (Or.inr (Or.inr (Or.inr (Or.inr (Or.inr (Or.inr (Or.inr (Or.inr (Or.inl ⟨by omega, by omega, by omega⟩)))))))))))
  rw [if_neg q] at h
  clear q
  by_cases q : c = 3
  · rw [if_pos q] at h
    exact Or.inl ⟨by omega, q⟩
  rw [if_neg q] at h
  clear q
  by_cases q : c = 40 ∨ c = 41
  · rw [if_pos q] at h
    exact Or.inr (Or.inl ⟨by omega, q⟩)
  rw [if_neg q] at h
  clear q
  by_cases q : c = 2
  · rw [if_pos q] at h
    exact Or.inr (Or.inr (Or.inl ⟨by omega, q⟩))
  rw [if_neg q] at h
  clear q
  by_cases q : c = 43
  · rw [if_pos q] at h
    exact Or.inr (Or.inr (Or.inr (Or.inl ⟨by omega, q⟩)))
  rw [if_neg q] at h
  clear q
  by_cases q : c = 32
  · rw [if_pos q] at h
    exact Or.inr (Or.inr (Or.inr (Or.inr (Or.inl ⟨by omega, q⟩))))
  rw [if_neg q] at h
  clear q
  by_cases q : c = 18
  · rw [if_pos q] at h
    exact Or.inr (Or.inr (Or.inr (Or.inr (Or.inr (Or.inl ⟨by omega, q⟩)))))
  rw [if_neg q] at h
  clear q
  by_cases q : c = 37
  · rw [if_pos q] at h
    exact Or.inr (Or.inr (Or.inr (Or.inr (Or.inr (Or.inr (Or.inl ⟨by omega, q⟩))))))
  rw [if_neg q] at h
  clear q
  by_cases q : c = 19
  · rw [if_pos q] at h
    exact Or.inr (Or.inr (Or.inr (Or.inr (Or.inr (Or.inr (Or.inr (Or.inl ⟨by omega, q⟩)))))))
  rw [if_neg q] at h
  clear q
  by_cases q : c = 30
  · rw [if_pos q] at h
    exact Or.inr (Or.inr (Or.inr (Or.inr (Or.inr (Or.inr (Or.inr (Or.inr (Or.inl ⟨by omega, q⟩))))))))
  rw [if_neg q] at h
  clear q
  by_cases q : c = 31
  · rw [if_pos q] at h
    exact Or.inr (Or.inr (Or.inr (Or.inr (Or.inr (Or.inr (Or.inr (Or.inr (Or.inr (Or.inl ⟨by omega, q⟩)))))))))
  rw [if_neg q] at h
  clear q
  by_cases q : c = 29
  · rw [if_pos q] at h
    exact Or.inr (Or.inr (Or.inr (Or.inr (Or.inr (Or.inr (Or.inr (Or.inr (Or.inr (Or.inr (Or.inl ⟨by omega, q⟩))))))))))
  rw [if_neg q] at h
  clear q
  by_cases q : c = 38
  · rw [if_pos q] at h
    exact Or.inr (Or.inr (Or.inr (Or.inr (Or.inr (Or.inr (Or.inr (Or.inr (Or.inr (Or.inr (Or.inr (Or.inr (Or.inl ⟨by omega, q⟩))))))))))))
  rw [if_neg q] at h
  clear q
  by_cases q : c = 39
  · rw [if_pos q] at h
    exact Or.inr (Or.inr (Or.inr (Or.inr (Or.inr (Or.inr (Or.inr (Or.inr (Or.inr (Or.inr (Or.inr (Or.inr (Or.inr (Or.inl ⟨by omega, q⟩)))))))))))))
  rw [if_neg q] at h
  clear q
  by_cases q : c = 42
  · rw [if_pos q] at h
    exact Or.inr (Or.inr (Or.inr (Or.inr (Or.inr (Or.inr (Or.inr (Or.inr (Or.inr (Or.inr (Or.inr (Or.inr (Or.inr (Or.inr (Or.inl ⟨by omega, q⟩))))))))))))))
  rw [if_neg q] at h
  clear q
  by_cases q : c = 28
  · rw [if_pos q] at h
    exact Or.inr (Or.inr (Or.inr (Or.inr (Or.inr (Or.inr (Or.inr (Or.inr (Or.inr (Or.inr (Or.inr (Or.inr (Or.inr (Or.inr (Or.inr (Or.inl ⟨by omega, q⟩)))))))))))))))
  rw [if_neg q] at h
  clear q
  by_cases q : c = 35
  · rw [if_pos q] at h
    exact Or.inr (Or.inr (Or.inr (Or.inr (Or.inr (Or.inr (Or.inr (Or.inr (Or.inr (Or.inr (Or.inr (Or.inr (Or.inr (Or.inr (Or.inr (Or.inr (Or.inl ⟨by omega, q⟩))))))))))))))))
  rw [if_neg q] at h
  clear q
  by_cases q : c = 36
  · rw [if_pos q] at h
    exact Or.inr (Or.inr (Or.inr (Or.inr (Or.inr (Or.inr (Or.inr (Or.inr (Or.inr (Or.inr (Or.inr (Or.inr (Or.inr (Or.inr (Or.inr (Or.inr (Or.inr (Or.inl ⟨by omega, q⟩)))))))))))))))))
  rw [if_neg q] at h
  clear q
  by_cases q : c = 27
  · rw [if_pos q] at h
    exact Or.inr (Or.inr (Or.inr (Or.inr (Or.inr (Or.inr (Or.inr (Or.inr (Or.inr (Or.inr (Or.inr (Or.inr (Or.inr (Or.inr (Or.inr (Or.inr (Or.inr (Or.inr (⟨by omega, q⟩))))))))))))))))))
  rw [if_neg q] at h
  clear q
  exfalso; omega
def tsK (c : Int) : Int := if c = 9 ∨ c = 10 ∨ c = 18 ∨ c = 27 ∨ c = 35 ∨ c = 36 ∨ c = 37 then 2 else if c = 19 ∨ 28 ≤ c ∧ c ≤ 31 then 1 else 0
theorem tsides_eq (γ : St) (c : Int) : f_Ck_typeOfSides γ c = some (tsK c, γ) := by
  unfold f_Ck_typeOfSides tsK
  grind (splits := 60)
def taK (c x : Int) : Int := if rankK c ≠ 5 then x else 1
def ctF (c s t1 tl tm : Int) : Int := if s ≠ 3 then (if t1 ≠ tl then 4 else if tsK c = 2 then 0 else if tsK c ≠ tl then 4 else 0) else (if t1 ≠ 1 then 4 else if tm ≠ tl then 4 else 0)
/-- s are taken from the stack and one is put there -/
def ctS (γ : St) (s v : Int) : St := fun j k => if j = 53 ∧ k = γ 7 4 - s then v else if j = 7 ∧ k = 4 then γ 7 4 - (s - 1) else γ j k
theorem ctS_o (γ : St) (s v : Int) {j : Nat} {k : Int} (h : j ≠ 53 ∨ k ≠ γ 7 4 - s) (h7 : j ≠ 7 ∨ k ≠ 4) : ctS γ s v j k = γ j k := by
  show (if _ then _ else _) = _
  rw [if_neg (by omega), if_neg (by omega)]
theorem ckT_n {γ : St} {e o : Int} (h43 : γ 38 e ≠ 43) (hs : γ 40 e ≠ 0) : pc (f_Ck_checkType γ e o) (fun z => z = (ctF (γ 38 e) (γ 40 e) (γ 53 (γ 7 4 - γ 40 e)) (γ 53 (γ 7 4 - 1)) (γ 53 (γ 7 4 - 2)), ctS γ (γ 40 e) (taK (γ 38 e) (γ 53 (γ 7 4 - 1))))) := by
  unfold f_Ck_checkType
  refine pc_c (fun _ => pc_a (pc_c (fun _ => pc_a ?_)))
  rw [if_pos h43, if_pos hs]
  generalize γ 38 e = c at *
  generalize γ 40 e = s at *
  refine pc_c (fun _ => pc_c (fun _ => pc_a (pc_c (fun _ => pc_c (fun _ => pc_a (pc_c (fun _ => pc_c (fun _ => pc_a ?_))))))))
  have e4 : setA γ 7 4 (γ 7 4 - (s - 1)) 7 4 = γ 7 4 - (s - 1) := by rw [stA, if_pos ⟨rfl, rfl⟩]
  rw [e4]
  refine pc_c (fun _ => pc_b (P := fun z => z = (taK c (γ 53 (γ 7 4 - 1)), setA γ 7 4 (γ 7 4 - (s - 1)))) ?_ (fun r γ' e => ?_))
  · unfold f_Ck_typeOfAnswer
    refine pc_b rank_pc (fun r γ' e => ?_)
    cases e
    unfold taK
    refine pc_i (fun q => ?_) (fun q => ?_)
    · rw [if_pos q]; exact pc_s rfl
    · rw [if_neg q]; exact pc_s rfl
  · cases e
    refine pc_c (fun _ => pc_a ?_)
    generalize hg : setA (setA γ 7 4 _) 53 _ _ = γ2
    have e2 : γ2 = ctS γ s (taK c (γ 53 (γ 7 4 - 1))) := by
      rw [← hg]
      funext j k
      rw [stA, stA]
      unfold ctS
      have e1 : γ 7 4 - (s - 1) - 1 = γ 7 4 - s := by omega
      rw [e1]
    rw [e2]
    refine pc_i (fun q => ?_) (fun q => ?_)
    · refine pc_b (P := fun z => z = (tsK c, ctS γ s (taK c (γ 53 (γ 7 4 - 1))))) (fun y e => by rw [tsides_eq] at e; cases e; rfl) (fun r γ' e => ?_)
      cases e
      unfold ctF
      rw [if_pos q]
      refine pc_i (fun q1 => ?_) (fun q1 => pc_i (fun q2 => ?_) (fun q2 => pc_i (fun q3 => ?_) (fun q3 => ?_)))
      · rw [if_pos q1]; exact pc_s rfl
      · rw [if_neg q1, if_pos q2]; exact pc_s rfl
      · rw [if_neg q1, if_neg q2, if_pos q3]; exact pc_s rfl
      · rw [if_neg q1, if_neg q2, if_neg q3]; exact pc_s rfl
    · have s3 : s = 3 := by omega
      have t4 : ctS γ s (taK c (γ 53 (γ 7 4 - 1))) 7 4 = γ 7 4 - 2 := by
        show (if _ then _ else _) = _
        rw [if_neg (by omega), if_pos ⟨rfl, rfl⟩]; omega
      have t53 : ctS γ s (taK c (γ 53 (γ 7 4 - 1))) 53 (γ 7 4 - 2) = γ 53 (γ 7 4 - 2) := ctS_o γ s _ (by omega) (by omega)
      unfold ctF
      rw [if_neg q, t4, t53]
      refine pc_i (fun q1 => ?_) (fun q1 => pc_c (fun _ => pc_i (fun q2 => ?_) (fun q2 => ?_)))
      · rw [if_pos q1]; exact pc_s rfl
      · rw [if_neg q1, if_pos q2]; exact pc_s rfl
      · rw [if_neg q1, if_neg q2]; exact pc_s rfl
theorem ckT_0 {γ : St} {e o : Int} (h43 : γ 38 e ≠ 43) (hs : γ 40 e = 0) : pc (f_Ck_checkType γ e o) (fun z => z = (0, ctS γ 0 (if γ 38 e = 2 then γ 33 (γ 7 5 + γ 39 e) else if γ 38 e = 3 then 0 else 1))) := by
  unfold f_Ck_checkType
  refine pc_c (fun _ => pc_a (pc_c (fun _ => pc_a ?_)))
  rw [if_pos h43, if_neg (fun r => r hs)]
  refine pc_b (P := fun z => z = ((if γ 38 e = 2 then γ 33 (γ 7 5 + γ 39 e) else if γ 38 e = 3 then 0 else 1), γ)) ?_ (fun r γ' e => ?_)
  · unfold f_Ck_typeOfAtom
    refine pc_c (fun _ => pc_i (fun q => ?_) (fun q => pc_i (fun q2 => ?_) (fun q2 => ?_)))
    · rw [if_pos q]; exact pc_c (fun _ => pc_c (fun _ => pc_c (fun _ => pc_s rfl)))
    · rw [if_neg q, if_pos q2]; exact pc_s rfl
    · rw [if_neg q, if_neg q2]; exact pc_s rfl
  · cases e
    refine pc_c (fun _ => pc_a ?_)
    have e4 : ∀ v, setA γ 53 (γ 7 4) v 7 4 = γ 7 4 := fun v => by rw [stA, if_neg (by omega)]
    rw [e4]
    refine pc_c (fun _ => pc_a (pc_s ?_))
    refine congrArg (Prod.mk 0) (funext fun j => funext fun k => ?_)
    rw [stA, stA]
    unfold ctS
    have e1 : γ 7 4 - 0 = γ 7 4 := by omega
    have e3 : γ 7 4 - (0 - 1) = γ 7 4 + 1 := by omega
    rw [e1, e3]
    by_cases q : j = 7 ∧ k = 4
    · rw [if_pos q, if_neg (by omega), if_pos q]
    · rw [if_neg q, if_neg q]
theorem mid9 {k : Int} (h : 11 ≤ k) (h2 : k ≤ 19) : k = 11 ∨ k = 12 ∨ k = 13 ∨ k = 14 ∨ k = 15 ∨ k = 16 ∨ k = 17 ∨ k = 18 ∨ k = 19 := by omega
def TyE (c k s t1 tl tm t2 t3 v2 : Int) : Prop := ctF c s t1 tl tm = 0 ∧ loK k t1 t2 t3 v2 = some (taK c tl) ∧ (taK c tl = 0 ∨ taK c tl = 1) ∨ ctF c s t1 tl tm = 4 ∧ loK k t1 t2 t3 v2 = none
theorem ty_s1 {c k t1 tm v2 t2 t3 : Int} (h : kdM c = k) (hk : 22 ≤ k) (b1 : t1 = 0 ∨ t1 = 1) : TyE c k 1 t1 t1 tm t2 t3 v2 := by
  have cs := kd_c h (Int.le_trans (by decide) hk)
  clear h
  rcases cs with ⟨a, b⟩ | ⟨a, b⟩ | ⟨a, b⟩ | ⟨a, b⟩ | ⟨a, b⟩ | ⟨a, b⟩ | ⟨a, b⟩ | ⟨a, b⟩ | ⟨a, b⟩ | ⟨a, b⟩ | ⟨a, b⟩ | ⟨a, a2, b⟩ | ⟨a, b⟩ | ⟨a, b⟩ | ⟨a, b⟩ | ⟨a, b⟩ | ⟨a, b⟩ | ⟨a, b⟩ | ⟨a, b⟩
  · exact absurd hk (by clear b1; omega)
  · exact absurd hk (by clear b1; omega)
  · exact absurd hk (by clear b1; omega)
  · exact absurd hk (by clear b1; omega)
  · exact absurd hk (by clear b1; omega)
  · exact absurd hk (by clear b1; omega)
  · exact absurd hk (by clear b1; omega)
  · exact absurd hk (by clear b1; omega)
  · exact absurd hk (by clear b1; omega)
  · exact absurd hk (by clear b1; omega)
  · exact absurd hk (by clear b1; omega)
  · exact absurd hk (by clear b1; omega)
  · exact absurd hk (by clear b1; omega)
  · exact absurd hk (by clear b1; omega)
  · subst a; subst b
    rcases b1 with e | e <;> subst e <;> first | exact Or.inl ⟨rfl, rfl, Or.inl rfl⟩ | exact Or.inl ⟨rfl, rfl, Or.inr rfl⟩ | exact Or.inr ⟨rfl, rfl⟩
  · subst a; subst b
    rcases b1 with e | e <;> subst e <;> first | exact Or.inl ⟨rfl, rfl, Or.inl rfl⟩ | exact Or.inl ⟨rfl, rfl, Or.inr rfl⟩ | exact Or.inr ⟨rfl, rfl⟩
  · subst a; subst b
    rcases b1 with e | e <;> subst e <;> first | exact Or.inl ⟨rfl, rfl, Or.inl rfl⟩ | exact Or.inl ⟨rfl, rfl, Or.inr rfl⟩ | exact Or.inr ⟨rfl, rfl⟩
  · subst a; subst b
    rcases b1 with e | e <;> subst e <;> first | exact Or.inl ⟨rfl, rfl, Or.inl rfl⟩ | exact Or.inl ⟨rfl, rfl, Or.inr rfl⟩ | exact Or.inr ⟨rfl, rfl⟩
  · subst a; subst b
    rcases b1 with e | e <;> subst e <;> first | exact Or.inl ⟨rfl, rfl, Or.inl rfl⟩ | exact Or.inl ⟨rfl, rfl, Or.inr rfl⟩ | exact Or.inr ⟨rfl, rfl⟩
theorem ty_s2 {c k t1 tl tm v2 t3 : Int} (h : kdM c = k) (hk : 5 ≤ k) (hk2 : k ≤ 21) (b1 : t1 = 0 ∨ t1 = 1) (bl : tl = 0 ∨ tl = 1) : TyE c k 2 t1 tl tm tl t3 v2 := by
  have cs := kd_c h (Int.le_trans (by decide) hk)
  clear h
  rcases cs with ⟨a, b⟩ | ⟨a, b⟩ | ⟨a, b⟩ | ⟨a, b⟩ | ⟨a, b⟩ | ⟨a, b⟩ | ⟨a, b⟩ | ⟨a, b⟩ | ⟨a, b⟩ | ⟨a, b⟩ | ⟨a, b⟩ | ⟨a, a2, b⟩ | ⟨a, b⟩ | ⟨a, b⟩ | ⟨a, b⟩ | ⟨a, b⟩ | ⟨a, b⟩ | ⟨a, b⟩ | ⟨a, b⟩
  · exact absurd hk (by clear b1 bl; omega)
  · exact absurd hk (by clear b1 bl; omega)
  · exact absurd hk (by clear b1 bl; omega)
  · exact absurd hk (by clear b1 bl; omega)
  · exact absurd hk (by clear b1 bl; omega)
  · subst a; subst b
    rcases b1 with e | e <;> subst e <;> rcases bl with e | e <;> subst e <;> first | exact Or.inl ⟨rfl, rfl, Or.inl rfl⟩ | exact Or.inl ⟨rfl, rfl, Or.inr rfl⟩ | exact Or.inr ⟨rfl, rfl⟩
  · subst a; subst b
    rcases b1 with e | e <;> subst e <;> rcases bl with e | e <;> subst e <;> first | exact Or.inl ⟨rfl, rfl, Or.inl rfl⟩ | exact Or.inl ⟨rfl, rfl, Or.inr rfl⟩ | exact Or.inr ⟨rfl, rfl⟩
  · subst a; subst b
    rcases b1 with e | e <;> subst e <;> rcases bl with e | e <;> subst e <;> first | exact Or.inl ⟨rfl, rfl, Or.inl rfl⟩ | exact Or.inl ⟨rfl, rfl, Or.inr rfl⟩ | exact Or.inr ⟨rfl, rfl⟩
  · subst a; subst b
    rcases b1 with e | e <;> subst e <;> rcases bl with e | e <;> subst e <;> first | exact Or.inl ⟨rfl, rfl, Or.inl rfl⟩ | exact Or.inl ⟨rfl, rfl, Or.inr rfl⟩ | exact Or.inr ⟨rfl, rfl⟩
  · subst a; subst b
    rcases b1 with e | e <;> subst e <;> rcases bl with e | e <;> subst e <;> first | exact Or.inl ⟨rfl, rfl, Or.inl rfl⟩ | exact Or.inl ⟨rfl, rfl, Or.inr rfl⟩ | exact Or.inr ⟨rfl, rfl⟩
  · subst a; subst b
    rcases b1 with e | e <;> subst e <;> rcases bl with e | e <;> subst e <;> first | exact Or.inl ⟨rfl, rfl, Or.inl rfl⟩ | exact Or.inl ⟨rfl, rfl, Or.inr rfl⟩ | exact Or.inr ⟨rfl, rfl⟩
  · clear hk hk2
    rcases mid9 a a2 with q | q | q | q | q | q | q | q | q
    · subst q
      have b : c = 9 := b
      subst b
      rcases b1 with e | e <;> subst e <;> rcases bl with e | e <;> subst e <;> first | exact Or.inl ⟨rfl, rfl, Or.inl rfl⟩ | exact Or.inl ⟨rfl, rfl, Or.inr rfl⟩ | exact Or.inr ⟨rfl, rfl⟩
    · subst q
      have b : c = 10 := b
      subst b
      rcases b1 with e | e <;> subst e <;> rcases bl with e | e <;> subst e <;> first | exact Or.inl ⟨rfl, rfl, Or.inl rfl⟩ | exact Or.inl ⟨rfl, rfl, Or.inr rfl⟩ | exact Or.inr ⟨rfl, rfl⟩
    · subst q
      have b : c = 11 := b
      subst b
      rcases b1 with e | e <;> subst e <;> rcases bl with e | e <;> subst e <;> first | exact Or.inl ⟨rfl, rfl, Or.inl rfl⟩ | exact Or.inl ⟨rfl, rfl, Or.inr rfl⟩ | exact Or.inr ⟨rfl, rfl⟩
    · subst q
      have b : c = 12 := b
      subst b
      rcases b1 with e | e <;> subst e <;> rcases bl with e | e <;> subst e <;> first | exact Or.inl ⟨rfl, rfl, Or.inl rfl⟩ | exact Or.inl ⟨rfl, rfl, Or.inr rfl⟩ | exact Or.inr ⟨rfl, rfl⟩
    · subst q
      have b : c = 13 := b
      subst b
      rcases b1 with e | e <;> subst e <;> rcases bl with e | e <;> subst e <;> first | exact Or.inl ⟨rfl, rfl, Or.inl rfl⟩ | exact Or.inl ⟨rfl, rfl, Or.inr rfl⟩ | exact Or.inr ⟨rfl, rfl⟩
    · subst q
      have b : c = 14 := b
      subst b
      rcases b1 with e | e <;> subst e <;> rcases bl with e | e <;> subst e <;> first | exact Or.inl ⟨rfl, rfl, Or.inl rfl⟩ | exact Or.inl ⟨rfl, rfl, Or.inr rfl⟩ | exact Or.inr ⟨rfl, rfl⟩
    · subst q
      have b : c = 15 := b
      subst b
      rcases b1 with e | e <;> subst e <;> rcases bl with e | e <;> subst e <;> first | exact Or.inl ⟨rfl, rfl, Or.inl rfl⟩ | exact Or.inl ⟨rfl, rfl, Or.inr rfl⟩ | exact Or.inr ⟨rfl, rfl⟩
    · subst q
      have b : c = 16 := b
      subst b
      rcases b1 with e | e <;> subst e <;> rcases bl with e | e <;> subst e <;> first | exact Or.inl ⟨rfl, rfl, Or.inl rfl⟩ | exact Or.inl ⟨rfl, rfl, Or.inr rfl⟩ | exact Or.inr ⟨rfl, rfl⟩
    · subst q
      have b : c = 17 := b
      subst b
      rcases b1 with e | e <;> subst e <;> rcases bl with e | e <;> subst e <;> first | exact Or.inl ⟨rfl, rfl, Or.inl rfl⟩ | exact Or.inl ⟨rfl, rfl, Or.inr rfl⟩ | exact Or.inr ⟨rfl, rfl⟩
  · subst a; subst b
    rcases b1 with e | e <;> subst e <;> rcases bl with e | e <;> subst e <;> first | exact Or.inl ⟨rfl, rfl, Or.inl rfl⟩ | exact Or.inl ⟨rfl, rfl, Or.inr rfl⟩ | exact Or.inr ⟨rfl, rfl⟩
  · subst a; subst b
    rcases b1 with e | e <;> subst e <;> rcases bl with e | e <;> subst e <;> first | exact Or.inl ⟨rfl, rfl, Or.inl rfl⟩ | exact Or.inl ⟨rfl, rfl, Or.inr rfl⟩ | exact Or.inr ⟨rfl, rfl⟩
  · exact absurd hk2 (by clear b1 bl; omega)
  · exact absurd hk2 (by clear b1 bl; omega)
  · exact absurd hk2 (by clear b1 bl; omega)
  · exact absurd hk2 (by clear b1 bl; omega)
  · exact absurd hk2 (by clear b1 bl; omega)
theorem ty_s3 {c t1 tl tm v2 : Int} (h : kdM c = 4) (b1 : t1 = 0 ∨ t1 = 1) (bl : tl = 0 ∨ tl = 1) (bm : tm = 0 ∨ tm = 1) : TyE c 4 3 t1 tl tm tm tl v2 := by
  have cc : c = 32 := by
    have cs := kd_c h (by decide)
    clear b1 bl bm h
    omega
  subst cc
  rcases b1 with e | e <;> subst e <;> rcases bl with e | e <;> subst e <;> rcases bm with e | e <;> subst e <;> first | exact Or.inl ⟨rfl, rfl, Or.inl rfl⟩ | exact Or.inl ⟨rfl, rfl, Or.inr rfl⟩ | exact Or.inr ⟨rfl, rfl⟩
theorem loL10_pc {γ : St} {e o : Int} {x30 : St → Int → Int → Int → Option Res} {Q : Res → Prop} : ∀ (n : Nat) (ks : List Int) (c x : Int), pc (x30 γ e o (c + ks.length)) Q → Ch (γ 23) x ks → pc (f_M_look_L10 x30 n γ e o c x) Q := by
  intro n
  induction n with
  | zero => intro ks c x _ _; exact pc_n
  | succ n ih =>
    intro ks c x h0 h1
    unfold f_M_look_L10
    match ks, h0, h1 with
    | [], h0, h1 =>
      have e1 : x = -1 := h1
      rw [if_pos (by omega)]
      have e2 : c + (([] : List Int).length : Int) = c := by simp
      rw [e2] at h0
      exact h0
    | y :: t, h0, h1 =>
      have e1 : x = y := h1.1
      have e0 := h1.2.1
      subst e1
      rw [if_neg (by omega)]
      have e2 : c + ((x :: t).length : Int) = c + 1 + (t.length : Int) := by simp only [List.length_cons]; omega
      rw [e2] at h0
      exact pc_c (fun _ => pc_c (fun _ => pc_a (ih t (c + 1) _ h0 h1.2.2)))
