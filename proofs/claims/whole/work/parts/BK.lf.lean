/-! equality: left sides -/
theorem DcR.gv {N t : Int} {γ γ' δ δ' : St} (h : DcR N t γ δ) (l : LxR N γ' δ') (e : ∀ j k, j ≠ 1 → j ≠ 4 → j ≠ 36 → j ≠ 37 → j ≠ 46 → j ≠ 47 → γ' j k = γ j k) (d : ∀ j k, (j = 0 → (k < 5 ∨ 9 < k) ∧ k ≠ 31) → j ≠ 13 → j ≠ 18 → δ' j k = δ j k) (g : ∀ v, 0 ≤ v → v < δ 0 19 → γ' 36 v = δ' 13 v) : DcR N t γ' δ' := by
  have ⟨h1, h2, h3, h4, h5, h6⟩ := h
  have er : ∀ j, j ≠ 1 ∧ j ≠ 4 ∧ j ≠ 36 ∧ j ≠ 37 ∧ j ≠ 46 ∧ j ≠ 47 → γ' j = γ j := fun j q => funext fun k => e j k (by omega) (by omega) (by omega) (by omega) (by omega) (by omega)
  have dr : ∀ j, j ≠ 0 ∧ j ≠ 13 ∧ j ≠ 18 → δ' j = δ j := fun j q => funext fun k => d j k (by omega) (by omega) (by omega)
  have d18 := d 0 18 (by omega) (by omega) (by omega)
  have d19 := d 0 19 (by omega) (by omega) (by omega)
  have d1 := d 0 1 (by omega) (by omega) (by omega)
  refine ⟨l, ?_, ?_, ?_, ?_, ?_⟩
  · unfold NmR spW at h2 ⊢
    rw [er 13 (by omega), er 18 (by omega), er 19 (by omega), er 22 (by omega), er 21 (by omega), er 2 (by omega), dr 4 (by omega), dr 10 (by omega), dr 11 (by omega), d18, d19, d1]
    exact h2
  · unfold NnR spW at h3 ⊢
    rw [er 13 (by omega), er 18 (by omega), er 19 (by omega), er 23 (by omega), er 2 (by omega), dr 2 (by omega), dr 3 (by omega), d18, d1]
    exact h3
  · unfold VrR at h4 ⊢
    rw [er 3 (by omega), er 25 (by omega), er 28 (by omega), dr 4 (by omega), d18, d19]
    exact h4
  · unfold VdR at h5 ⊢
    rw [er 34 (by omega), er 33 (by omega), dr 12 (by omega), dr 14 (by omega), d19]
    intro v q1 q2
    have b := h5 v q1 q2
    exact ⟨b.1, g v q1 q2, b.2.2⟩
  · unfold DpR at h6 ⊢
    rw [er 35 (by omega), dr 12 (by omega), dr 4 (by omega), d18, d19]
    exact h6
/-- while left sides are read -/
def LfR (N : Int) (γ δ : St) : Prop := DcR N (δ 0 19) γ δ ∧ (γ 26 (δ 0 18) = δ 5 (δ 0 18) ∧ 0 ≤ δ 5 (δ 0 18)) ∧ (γ 4 10 = δ 0 30 ∧ γ 4 12 = δ 0 31 ∧ γ 4 4 = δ 0 40) ∧ (∀ i, 0 ≤ i → i < δ 0 31 → γ 47 i = δ 18 i) ∧ γ 46 (δ 0 30) = δ 0 31 - γ 45 (δ 0 30) ∧ 0 ≤ δ 0 31
def FcL (γ γ' : St) : Prop := ∀ j k, (j = 1 → k < 5 ∨ 8 < k) → j ≠ 36 → j ≠ 37 → (j = 47 → k < γ 4 12) → (j = 46 → k ≠ γ 4 10) → (j = 4 → k ≠ 12) → γ' j k = γ j k
def FgL (δ δ' : St) : Prop := ∀ j k, (j = 0 → (k < 5 ∨ 9 < k) ∧ k ≠ 31) → j ≠ 13 → (j = 18 → k < δ 0 31) → δ' j k = δ j k
def alS (γ : St) (a : Int) : St := fun j k => if j = 46 ∧ k = γ 4 10 then γ 46 (γ 4 10) + 1 else if j = 4 ∧ k = 12 then γ 4 12 + 1 else if j = 47 ∧ k = γ 4 12 then a else γ j k
theorem addLeft_pc {γ : St} {a : Int} : pc (f_Cd_addLeft γ a) (fun z => z = (0, alS γ a)) := by
  unfold f_Cd_addLeft
  refine pc_c (fun _ => pc_a (pc_c (fun _ => pc_a (pc_c (fun _ => pc_c (fun _ => pc_c (fun _ => pc_a (pc_s ?_)))))))) 
  refine congrArg (Prod.mk 0) (funext fun j => funext fun k => ?_)
  simp [stA, alS]
def lfB (δ : St) : Option Res :=
  chk (i32 ((δ 0 31) + 1)) (ap (setA δ 0 31 ((δ 0 31) + 1)) fun γ67 =>
  bndT (f_M_left γ67) fun r68 γ69 =>
  chk (inb (δ 0 31) 66000) (ap (setA γ69 18 (δ 0 31) r68) fun γ70 => x0 γ70))
theorem pq_left {N : Int} {γ δ : St} (h : LfR N γ δ) : pq (f_Nr_readLeft γ) (lfB δ) (OuR (fun γ' δ' => LfR N γ' δ' ∧ FcL γ γ' ∧ FgL δ δ' ∧ γ 1 6 < γ' 1 6 ∧ δ' 0 31 = δ 0 31 + 1)) := by
  have ⟨h0, ⟨hi, hi0⟩, ⟨c1, c2, c3⟩, hl, h46, hn⟩ := h
  have d31 : ∀ j k, (j ≠ 0 ∨ k ≠ 31) → setA δ 0 31 (δ 0 31 + 1) j k = δ j k := fun j k q => by rw [stA, if_neg (by omega)]
  have d31' : setA δ 0 31 (δ 0 31 + 1) 0 31 = δ 0 31 + 1 := by rw [stA, if_pos ⟨rfl, rfl⟩]
  unfold lfB
  refine pq_cr (fun _ => pq_ar ?_)
  generalize setA δ 0 31 (δ 0 31 + 1) = δ1 at *
  have l1 : LxR N γ δ1 := h0.1.fr (fun _ _ _ => rfl) (fun _ _ _ => rfl) rfl (funext fun k => d31 1 k (by omega)) (fun k _ => d31 0 k (by omega))
  have h1 : DcR N (δ 0 19) γ δ1 := h0.gv l1 (fun _ _ _ _ _ _ _ _ => rfl) (fun j k q1 q2 q3 => d31 j k (by omega)) (fun v q1 q2 => by rw [d31 13 v (by omega)]; exact (h0.2.2.2.2.1 v q1 q2).2.1)
  have ⟨_, hN, hM, ⟨r1, r2, r3, r4, r5, r6⟩, h5, h6⟩ := h1
  have e18 := d31 0 18 (by omega)
  have e19 := d31 0 19 (by omega)
  have hi' : γ 26 (γ 3 9) = δ1 5 (δ1 0 18) := by rw [r1, e18, d31 5 _ (by omega)]; exact hi
  have hi0' : 0 ≤ δ1 5 (δ1 0 18) := by rw [e18, d31 5 _ (by omega)]; exact hi0
  have hp : pkS δ1 0 7 = sk δ1 := pk_7 δ1
  unfold f_Nr_readLeft f_M_left
  simp only [bT_N, bT_I, bT_C, bT_e, bT_r, ap]
  refine pq_bl kind_pc (fun r γ1 e => ?_)
  cases e
  refine pq_yn (w_nameHere l1.1.1) (fun q => ?_) (fun q => ?_)
  · have k1 : tK δ1 = 1 := q.1
    have a := l1.1.wd k1
    rw [if_pos (l1.1.nm.2 q), if_pos (by decide)]
    refine pq_br vHere_pc (fun r δ2 e => ?_)
    obtain ⟨r', e, F⟩ := e
    have e1 : r' = r := (congrArg Prod.fst e).symm
    have e2 : δ2 = pkS δ1 := congrArg Prod.snd e
    subst e1
    subst e2
    rw [pkS_o δ1 4 _ (by omega), pkS_o δ1 0 18 (by omega), pkS_o δ1 0 19 (by omega)] at F
    have fd := hN.find l1.1 k1 (Int.le_refl _) F
    refine pq_bl vNow_pc (fun r9 γ1 e => ?_)
    obtain ⟨e1, e2⟩ := e
    have e1 : γ1 = γ := e1
    have e2 : γ 22 (wdN γ) = γ 3 9 + 1 ∧ r9 = γ 21 (wdN γ) ∨ γ 22 (wdN γ) ≠ γ 3 9 + 1 ∧ r9 = -1 := e2
    subst e1
    refine pq_cl (fun _ => pq_cr (fun _ => pq_cr (fun _ => pq_cr (fun _ => ?_))))
    rw [pkS_o δ1 4 _ (by omega), pkS_o δ1 5 _ (by omega), pkS_o δ1 0 18 (by omega), hi']
    rcases fd with ⟨f1, f2, f3⟩ | ⟨f1, f2⟩
    · have e3 : r9 = γ1 21 (wdN γ1) := by
        rcases e2 with e2 | e2
        · exact e2.2
        · exact absurd (by rw [r1]; exact f1) e2.1
      by_cases c : δ1 5 (δ1 0 18) ≤ r9
      · rw [if_pos c, if_pos (show δ1 4 (δ1 0 18) + δ1 5 (δ1 0 18) ≤ r' by omega)]
        have e4 : γ1 25 (γ1 3 9) + r9 = r' := by rw [r1, r3]; omega
        rw [e4]
        refine pq_cl (fun _ => pq_cl (fun _ => pq_cl (fun _ => pq_cl (fun _ => pq_cl (fun _ => pq_cl (fun _ => pq_cl (fun _ => ?_)))))))
        refine pq_bl addLeft_pc (fun r γ2 e => ?_)
        cases e
        generalize hg : alS (setA (setA γ1 36 r' (γ1 36 r' + 1)) 37 r' _) r9 = γ2
        have s : ∀ j k, j ≠ 37 → γ2 j k = if j = 46 ∧ k = γ1 4 10 then γ1 46 (γ1 4 10) + 1 else if j = 4 ∧ k = 12 then γ1 4 12 + 1 else if j = 47 ∧ k = γ1 4 12 then r9 else if j = 36 ∧ k = r' then γ1 36 r' + 1 else γ1 j k := fun j k q => by
          rw [← hg]
          simp [stA, alS, q]
        have so : ∀ j k, j ≠ 36 → j ≠ 37 → (j = 46 → k ≠ γ1 4 10) → (j = 4 → k ≠ 12) → (j = 47 → k ≠ γ1 4 12) → γ2 j k = γ1 j k := fun j k q1 q2 q3 q4 q5 => by
          rw [s j k q2, if_neg (by omega), if_neg (by omega), if_neg (by omega), if_neg (by omega)]
        have l2 : LxR N γ2 δ1 := l1.fr (fun j k q => so j k (by omega) (by omega) (by omega) (by omega) (by omega)) (fun k _ _ => so 1 k (by omega) (by omega) (by omega) (by omega) (by omega)) (so 2 8 (by omega) (by omega) (by omega) (by omega) (by omega)) rfl (fun _ _ => rfl)
        refine pq_bl (step_pc l2.1 (by omega) (by omega)) (fun r γ3 e => ?_)
        cases e
        refine pq_er (tkM_eq l1.1.1.pk) ?_
        rw [tkS_pk l1.1.1]
        refine pq_cr (fun _ => pq_cr (fun _ => pq_cr (fun _ => pq_cr (fun _ => pq_cr (fun _ => pq_cr (fun _ => ?_))))))
        have l3 := l2.tk (by omega) (by omega)
        generalize hD : setA (setA (tkS δ1) 13 r' _) 18 (δ 0 31) _ = δ3
        have D : ∀ j k, δ3 j k = if j = 18 ∧ k = δ 0 31 then r9 else if j = 13 ∧ k = r' then δ1 13 r' + 1 else tkS δ1 j k := fun j k => by
          rw [← hD]
          have p18 := tkS_o δ1 0 18 (by omega)
          have p4 := fun k => tkS_o δ1 4 k (by omega)
          have p13 := fun k => tkS_o δ1 13 k (by omega)
          have er : r' - δ1 4 (δ1 0 18) = r9 := by omega
          simp [stA, p18, p4, p13, er]
        have Do : ∀ j k, (j = 18 → k ≠ δ 0 31) → j ≠ 13 → δ3 j k = tkS δ1 j k := fun j k q1 q2 => by rw [D, if_neg (by omega), if_neg (by omega)]
        have Dd : ∀ j k, (j = 0 → (k < 5 ∨ 9 < k) ∧ k ≠ 31) → j ≠ 13 → (j = 18 → k ≠ δ 0 31) → δ3 j k = δ j k := fun j k q1 q2 q3 => by rw [Do j k q3 q2, tkS_o δ1 j k (by omega), d31 j k (by omega)]
        have l4 : LxR N (nxS γ2) δ3 := l3.fr (fun _ _ _ => rfl) (fun _ _ _ => rfl) rfl (funext fun k => Do 1 k (by omega) (by omega)) (fun k _ => Do 0 k (by omega) (by omega))
        have n := fun (j : Nat) (k : Int) (q : j ≠ 1 ∨ k ≠ 6) => nxS_o γ2 (j := j) (k := k) q
        have hv : ∀ v, 0 ≤ v → v < δ 0 19 → nxS γ2 36 v = δ3 13 v := fun v q1 q2 => by
          have b := (h5 v q1 (by omega)).2.1
          have L : γ2 36 v = if v = r' then γ1 36 v + 1 else γ1 36 v := by
            rw [s 36 v (by omega), if_neg (by omega), if_neg (by omega), if_neg (by omega)]
            by_cases c : v = r'
            · rw [if_pos ⟨rfl, c⟩, if_pos c, c]
            · rw [if_neg (by omega), if_neg c]
          have R : δ3 13 v = if v = r' then δ1 13 v + 1 else δ1 13 v := by
            rw [D, if_neg (by omega)]
            by_cases c : v = r'
            · rw [if_pos ⟨rfl, c⟩, if_pos c, c]
            · rw [if_neg (by omega), if_neg c, tkS_o δ1 13 v (by omega)]
          rw [n 36 v (by omega), L, R, b]
        have hd : DcR N (δ 0 19) (nxS γ2) δ3 := h0.gv l4 (fun j k q1 q2 q3 q4 q5 q6 => by rw [n j k (by omega)]; exact so j k q3 q4 (by omega) (by omega) (by omega)) (fun j k q1 q2 q3 => Dd j k q1 q2 (by omega)) hv
        have x18 := Dd 0 18 (by omega) (by omega) (by omega)
        have x19 := Dd 0 19 (by omega) (by omega) (by omega)
        have x30 := Dd 0 30 (by omega) (by omega) (by omega)
        have x40 := Dd 0 40 (by omega) (by omega) (by omega)
        have x31 : δ3 0 31 = δ 0 31 + 1 := by rw [Do 0 31 (by omega) (by omega), tkS_o δ1 0 31 (by omega)]; exact d31'
        refine pq_some (OuR.ok ⟨⟨by rw [x19]; exact hd, ?_, ?_, ?_, ?_, by omega⟩, fun j k q1 q2 q3 q4 q5 q6 => ?_, fun j k q1 q2 q3 => Dd j k q1 q2 (by omega), ?_, x31⟩)
        · rw [x18, n 26 _ (by omega), so 26 _ (by omega) (by omega) (by omega) (by omega) (by omega), Dd 5 _ (by omega) (by omega) (by omega)]
          exact ⟨hi, hi0⟩
        · rw [x30, x31, x40, n 4 10 (by omega), n 4 12 (by omega), n 4 4 (by omega), so 4 10 (by omega) (by omega) (by omega) (by omega) (by omega), so 4 4 (by omega) (by omega) (by omega) (by omega) (by omega), s 4 12 (by omega), if_neg (by omega), if_pos ⟨rfl, rfl⟩]
          exact ⟨c1, by omega, c3⟩
        · rw [x31]
          intro i q1 q2
          rw [n 47 i (by omega), s 47 i (by omega), if_neg (by omega), if_neg (by omega), D]
          by_cases c : i = δ 0 31
          · rw [if_pos ⟨rfl, by omega⟩, if_pos ⟨rfl, c⟩]
          · rw [if_neg (by omega), if_neg (by omega), if_neg (by omega), if_neg (by omega), tkS_o δ1 18 i (by omega), d31 18 i (by omega)]
            exact hl i q1 (by omega)
        · rw [x30, x31, n 46 _ (by omega), n 45 _ (by omega), so 45 _ (by omega) (by omega) (by omega) (by omega) (by omega), s 46 _ (by omega), if_pos ⟨rfl, c1.symm⟩, c1]
          omega
        · rw [n j k (by omega)]; exact so j k q2 q3 q5 q6 (by omega)
        · have n6 : nxS γ2 1 6 = γ2 1 6 + 1 := by unfold nxS; rw [stA, if_pos ⟨rfl, rfl⟩]
          rw [n6, so 1 6 (by omega) (by omega) (by omega) (by omega) (by omega)]; omega
      · rw [if_neg c, if_neg (show ¬ δ1 4 (δ1 0 18) + δ1 5 (δ1 0 18) ≤ r' by omega)]
        exact pq_fail l1 (by decide) hp
    · have e3 : r9 = -1 := by
        rcases e2 with e2 | e2
        · have b0 := (hN.1 (wdN γ1) a.1.1 a.1.2 (by rw [← r1]; exact e2.1)).1
          have b1 := f2 (by rw [← r1]; exact e2.1)
          exfalso; omega
        · exact e2.2
      rw [if_neg (show ¬ δ1 5 (δ1 0 18) ≤ r9 by omega), if_neg (show ¬ δ1 4 (δ1 0 18) + δ1 5 (δ1 0 18) ≤ r' by omega)]
      exact pq_fail l1 (by decide) hp
  · rw [if_neg (fun e => q (l1.1.nm.1 e)), if_neg (by decide)]
    exact pq_cant l1.pk
