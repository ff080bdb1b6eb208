/-! equality: a group of names and its type -/
def dcS (γ : St) : St := fun j k => if j = 28 ∧ k = γ 3 9 then γ 28 (γ 3 9) + 1 else if j = 3 ∧ k = 15 then γ 3 15 + 1 else if (j = 35 ∨ j = 36 ∨ j = 37) ∧ k = γ 3 15 then 0 else if j = 34 ∧ k = γ 3 15 then -1 else γ j k
theorem declare_pc {γ : St} : pc (f_Nd_declare γ) (fun z => z = (γ 28 (γ 3 9), dcS γ)) := by
  unfold f_Nd_declare
  refine pc_c (fun _ => pc_a (pc_c (fun _ => pc_a (pc_c (fun _ => pc_a (pc_c (fun _ => pc_a (pc_c (fun _ => pc_a (pc_c (fun _ => pc_c (fun _ => pc_c (fun _ => pc_a (pc_c (fun _ => pc_c (fun _ => pc_s ?_))))))))))))))))
  refine Prod.ext ?_ (funext fun j => funext fun k => ?_)
  · simp [stA]
  · simp [stA, dcS]
    grind
def nmB (γ : St) : Option Res :=
  bndN (f_M_nameHere γ) fun r91 γ92 =>
  if r91 ≠ 0 then
  (bndN (f_M_variableHere γ92 (γ92 0 19)) fun r94 γ95 =>
  if r94 < 0 then
  (chk (inb (γ95 0 18) 61) (chk (i32 ((γ95 0 19) - (γ95 4 (γ95 0 18)))) (if ((γ95 0 19) - (γ95 4 (γ95 0 18))) ≠ 99 then
  (chk (inb (γ95 0 19) 6000) (ap (setA γ95 10 (γ95 0 19) (γ95 0 7)) fun γ104 =>
  chk (i32 ((γ104 0 8) - (γ104 0 7))) (chk (inb (γ104 0 19) 6000) (ap (setA γ104 11 (γ104 0 19) ((γ104 0 8) - (γ104 0 7))) fun γ110 =>
  chk (inb (γ110 0 19) 6000) (ap (setA γ110 12 (γ110 0 19) (-1)) fun γ113 =>
  chk (inb (γ113 0 19) 6000) (ap (setA γ113 13 (γ113 0 19) 0) fun γ116 =>
  chk (i32 ((γ116 0 19) + 1)) (ap (setA γ116 0 19 ((γ116 0 19) + 1)) fun γ119 =>
  bndN (f_M_take γ119) fun _ γ121 => some (.inr 0, γ121))))))))
  else
  (f_M_group_b66 γ95 ))))
  else
  (f_M_group_b34 γ95 ))
  else
  (f_M_group_b18 γ92 )
theorem gL7_b {x170 : St → Int → Int → Option Res} {a x : Int} (n : Nat) (γ : St) : f_M_group_L7 f_M_group_b18 f_M_group_b34 f_M_group_b66 x170 (n + 1) γ a x 1 = bndT (nmB γ) (fun _ γ1 => bndN (f_M_peek γ1) fun r γ2 => if r ≠ 44 then f_M_group_L7 f_M_group_b18 f_M_group_b34 f_M_group_b66 x170 n γ2 a x 0 else bndN (f_M_take γ2) fun _ γ3 => f_M_group_L7 f_M_group_b18 f_M_group_b34 f_M_group_b66 x170 n γ3 a x 1) := by
  unfold nmB
  simp only [bT_I, bT_C, bT_N, bT_r, ap, g18_s, g34_s, g66_s]
  rw [f_M_group_L7]
  unfold f_M_group_b158
  simp only [if_neg (show ¬ (1 : Int) = 0 by decide), if_true, ap]
/-- the last of a declared name's writes -/
theorem nnD_eq {δ : St} (h : pkS δ = δ) {x : St} (e : x = setA (setA (setA (setA (setA δ 10 (δ 0 19) (δ 0 7)) 11 (δ 0 19) (δ 0 8 - δ 0 7)) 12 (δ 0 19) (-1)) 13 (δ 0 19) 0) 0 19 (δ 0 19 + 1)) : x = nnD δ := by
  have e7 : δ 0 7 = sk δ := by rw [← pk_7 δ, h]
  have e8 : δ 0 8 = tE δ := by rw [← pk_8 δ, h]
  rw [e]
  funext j k
  show _ = (if _ then _ else _)
  rw [h, e7, e8]
  simp only [stA]
/-- what a declaration leaves -/
def DcQ (N t : Int) (γ0 δ0 γ δ : St) : Prop := DcR N t γ δ ∧ FcD (γ0 3 15) (γ0 3 9) γ0 γ ∧ Fg (δ0 0 19) δ0 δ ∧ δ0 0 19 ≤ δ 0 19 ∧ γ0 1 6 ≤ γ 1 6
theorem DcQ.rf {N t : Int} {γ δ : St} (h : DcR N t γ δ) : DcQ N t γ δ γ δ := ⟨h, FcD.rf, Fg.rf, Int.le_refl _, Int.le_refl _⟩
theorem DcQ.tr {N t t' : Int} {γ0 δ0 γ1 δ1 γ δ : St} (h : DcQ N t γ0 δ0 γ1 δ1) (h0 : γ0 3 15 = δ0 0 19) (k : DcQ N t' γ1 δ1 γ δ) : DcQ N t' γ0 δ0 γ δ := by
  have ⟨a1, a2, a3, a4, a5⟩ := h
  have ⟨b1, b2, b3, b4, b5⟩ := k
  have r := a1.2.2.2.1
  have e9 : γ1 3 9 = γ0 3 9 := a2 3 9 (by omega) (by omega) (by omega) (by omega) (by omega) (by omega)
  rw [e9] at b2
  exact ⟨b1, a2.tr b2 (by have := r.2.1; omega), a3.tr2 b3 a4, by omega, by omega⟩
theorem DcQ.tk {N t : Int} {γ δ : St} (h : DcR N t γ δ) (k0 : tK δ ≠ 0) (k3 : tK δ ≠ 3) : DcQ N t γ δ (nxS γ) (tkS δ) := ⟨h.tk k0 k3, FcD.nx, Fg.tk, by rw [tkS_o δ 0 19 (by omega)]; exact Int.le_refl _, by unfold nxS; rw [stA, if_pos ⟨rfl, rfl⟩]; omega⟩
theorem DcQ.pk {N t : Int} {γ δ : St} (h : DcR N t γ δ) : DcQ N t γ δ γ (pkS δ) := ⟨h.pk, FcD.rf, Fg.pk, by rw [pkS_o δ 0 19 (by omega)]; exact Int.le_refl _, Int.le_refl _⟩
theorem DcQ.nn {N t : Int} {γ δ : St} (h : DcR N t γ δ) (k1 : tK δ = 1) (ho : γ 22 (wdN γ) ≠ δ 0 18 + 1) (ht : t ≤ δ 0 19) : DcQ N t γ δ (nnS γ) (nnD δ) := by
  have r := h.2.2.2.1
  refine ⟨h.nn k1 ho ht, fun j k q1 q2 q3 q4 q5 q6 => ?_, fun j k q1 q2 => ?_, ?_, ?_⟩
  · show (if _ then _ else _) = _
    repeat rw [if_neg (by omega)]
  · show (if _ then _ else _) = _
    rw [if_neg (by omega), if_neg (by omega), if_neg (by omega), if_neg (by omega), if_neg (by omega), pkS_o δ j k (by omega)]
  · have c19 : nnD δ 0 19 = δ 0 19 + 1 := by show (if _ then _ else _) = _; rw [if_pos ⟨rfl, rfl⟩]
    omega
  · rw [nnS_o γ (by omega) (by omega)]; exact Int.le_refl _
theorem pq_nm {N t : Int} {γ δ : St} (h : DcR N t γ δ) (ht : t ≤ δ 0 19) : pq (f_Nr_readNewName γ) (nmB δ) (OuR (fun γ' δ' => DcQ N t γ δ γ' δ' ∧ γ 1 6 < γ' 1 6)) := by
  have ⟨h1, hN, hM, ⟨r1, r2, r3, r4, r5, r6⟩, h5, h6⟩ := h
  unfold f_Nr_readNewName nmB
  refine pq_bl kind_pc (fun r γ1 e => ?_)
  cases e
  refine pq_yn (w_nameHere h1.1.1) (fun q => ?_) (fun q => ?_)
  · have k1 : tK δ = 1 := q.1
    have a := h1.1.wd k1
    rw [if_pos (h1.1.nm.2 q), if_pos (by decide)]
    refine pq_bl item_pc (fun r γ1 e => ?_)
    cases e
    refine pq_cl (fun _ => pq_cl (fun _ => ?_))
    refine pq_br vHere_pc (fun r δ1 e => ?_)
    obtain ⟨r', e, F⟩ := e
    have e1 : r' = r := (congrArg Prod.fst e).symm
    have e2 : δ1 = pkS δ := congrArg Prod.snd e
    subst e1
    subst e2
    rw [pkS_o δ 4 _ (by omega), pkS_o δ 0 18 (by omega), pkS_o δ 0 19 (by omega)] at F
    have fd := hN.find h1.1 k1 (Int.le_refl _) F
    have hp : pkS δ 0 7 = sk δ := pk_7 δ
    rcases fd with ⟨f1, f2, f3⟩ | ⟨f1, f2⟩
    · rw [if_neg (by rw [r1]; exact fun r => r f1), if_neg (by omega)]
      exact pq_fail h1 (by decide) hp
    · have ho : γ 22 (wdN γ) ≠ δ 0 18 + 1 := fun q2 => by
        have b := (hN.1 (wdN γ) a.1.1 a.1.2 q2).1
        have := f2 q2
        omega
      rw [if_pos (show γ 22 (γ 16 (γ 1 6)) ≠ γ 3 9 + 1 by rw [r1]; exact ho), if_pos (show r' < 0 by omega)]
      refine pq_cl (fun _ => pq_cr (fun _ => pq_cr (fun _ => ?_)))
      rw [pkS_o δ 4 _ (by omega), pkS_o δ 0 18 (by omega), pkS_o δ 0 19 (by omega), r1, r4]
      refine pq_ir (fun q2 => ?_) (fun q2 => ?_)
      · rw [if_pos q2]
        refine pq_cl (fun _ => pq_cl (fun _ => pq_al (pq_bl declare_pc (fun r γ1 e => ?_))))
        cases e
        refine pq_cl (fun _ => pq_al ?_)
        refine pq_cr (fun _ => pq_ar (pq_cr (fun _ => pq_cr (fun _ => pq_ar (pq_cr (fun _ => pq_ar (pq_cr (fun _ => pq_ar (pq_cr (fun _ => pq_ar ?_)))))))))) 
        have eC : setA (dcS (setA γ 22 (γ 16 (γ 1 6)) (δ 0 18 + 1))) 21 (γ 16 (γ 1 6)) (setA γ 22 (γ 16 (γ 1 6)) (δ 0 18 + 1) 28 (setA γ 22 (γ 16 (γ 1 6)) (δ 0 18 + 1) 3 9)) = nnS γ := by
          funext j k
          simp [stA, dcS, nnS, wdN, r1]
        have hn := h.nn k1 ho ht
        have tk : tK (nnD δ) = 1 := by
          rw [(tK_fr (δ := pkS δ) (δ' := nnD δ) (funext fun k => nnD_o δ (by omega) (by omega)) (fun k q => nnD_o δ (by omega) (by omega))).1, pk_tK h1.1.1, k1]
        rw [eC]
        generalize hD : setA _ 0 19 _ = δ2
        have eD : δ2 = nnD δ := by
          rw [← hD]
          have p19 := pkS_o δ 0 19 (by omega)
          funext j k
          simp [stA, nnD, pk_7, pk_8, p19]
        rw [eD]
        refine pq_er (tkM_eq hn.1.1.1) (pq_bl (step_pc hn.1.1 (by omega) (by omega)) (fun r γ1 e => ?_))
        cases e
        refine pq_some (OuR.ok ⟨(DcQ.nn h k1 ho ht).tr r2 (DcQ.tk hn (by omega) (by omega)), ?_⟩)
        have e6 : nnS γ 1 6 = γ 1 6 := nnS_o γ (by omega) (by omega)
        show γ 1 6 < setA (nnS γ) 1 6 (nnS γ 1 6 + 1) 1 6
        rw [stA, if_pos ⟨rfl, rfl⟩]
        omega
      · rw [if_neg q2]
        exact pq_fail h1 (by decide) hp
  · rw [if_neg (fun e => q (h1.1.nm.1 e)), if_neg (by decide)]
    exact pq_cant h1.pk
