/-! equality: a group's clock, read -/
section BN
variable {ζ : Type}
theorem bN_N {c : Option (Int × St)} {K : Int → St → Option (Int × St)} {k : Int → St → Option ζ} : bndN (bndN c K) k = bndN c (fun r γ => bndN (K r γ) k) := by cases c <;> rfl
theorem bN_C {c : Prop} {inst : Decidable c} {o : Option (Int × St)} {k : Int → St → Option ζ} : bndN (@chk c _ inst o) k = @chk c _ inst (bndN o k) := by
  by_cases q : c
  · rw [chk_t q, chk_t q]
  · unfold chk; rw [if_neg q, if_neg q]; rfl
theorem bN_I {c : Prop} {inst : Decidable c} {a b : Option (Int × St)} {k : Int → St → Option ζ} : bndN (@ite _ c inst a b) k = @ite _ c inst (bndN a k) (bndN b k) := by
  by_cases q : c
  · rw [if_pos q, if_pos q]
  · rw [if_neg q, if_neg q]
theorem bN_s {r : Int} {γ : St} {k : Int → St → Option ζ} : bndN (some (r, γ)) k = k r γ := rfl
end BN
theorem pq_fail0 {R : St → St → Prop} {N k : Int} {γ δ δ' : St} (h : LxR N γ δ) (hk : k ≠ 0) {p : Int} (hp : p = sk δ) : pq (bndN (f_Tk_fail γ k) fun _ γ' => some (0, γ')) (some (Sum.inl (k, p), δ')) (OuR R) := by
  refine pq_bl (fail_pc h.2) (fun r γ' e => ?_)
  cases e
  exact pq_some (OuR.no (flS_7 γ k) (by rw [flS_8, hp, h.1.2.2.2.2]) hk)
theorem vNow_pc {γ : St} : pc (f_Er_variableNow γ) (fun z => z.2 = γ ∧ (γ 22 (wdN γ) = γ 3 9 + 1 ∧ z.1 = γ 21 (wdN γ) ∨ γ 22 (wdN γ) ≠ γ 3 9 + 1 ∧ z.1 = -1)) := by
  unfold f_Er_variableNow
  refine pc_c (fun _ => pc_a (pc_c (fun _ => pc_c (fun _ => pc_i (fun q => pc_s ⟨rfl, Or.inr ⟨q, rfl⟩⟩) (fun q => pc_c (fun _ => pc_s ⟨rfl, Or.inl ⟨?_, rfl⟩⟩))))))
  by_cases r : γ 22 (wdN γ) = γ 3 9 + 1
  · exact r
  · exact absurd r q
/-- what readGroupClock does behind readClock -/
def ckK (a0 r : Int) (γ23 : St) : Option (Int × St) := if 0 ≤ r then
  (chk (inb (γ23 3 9) 59) (ap (γ23 25 (γ23 3 9)) fun x29 =>
  chk (i32 (x29 + a0)) (ap (x29 + a0) fun x31 =>
  f_Nr_readGroupClock_L50  FU γ23 r x29 x31)))
  else
  (some (0, γ23))
/-- what a group's clock leaves -/
def CkQ (N x : Int) (γ0 δ0 γ δ : St) : Prop := DcR N (δ 0 19) γ δ ∧ FcD x (γ0 3 9) γ0 γ ∧ Fg x δ0 δ ∧ δ 0 19 = δ0 0 19 ∧ γ0 1 6 ≤ γ 1 6
theorem CkQ.tr {N x : Int} {γ0 δ0 γ1 δ1 γ δ : St} (h : CkQ N x γ0 δ0 γ1 δ1) (k : CkQ N x γ1 δ1 γ δ) : CkQ N x γ0 δ0 γ δ := by
  have ⟨a1, a2, a3, a4, a5⟩ := h
  have ⟨b1, b2, b3, b4, b5⟩ := k
  have e9 : γ1 3 9 = γ0 3 9 := a2 3 9 (by omega) (by omega) (by omega) (by omega) (by omega) (by omega)
  rw [e9] at b2
  exact ⟨b1, a2.tr b2 (Int.le_refl _), a3.tr2 b3 (Int.le_refl _), by omega, by omega⟩
theorem CkQ.tk {N x : Int} {γ δ : St} (h : DcR N (δ 0 19) γ δ) (k0 : tK δ ≠ 0) (k3 : tK δ ≠ 3) : CkQ N x γ δ (nxS γ) (tkS δ) := by
  have e := tkS_o δ 0 19 (by omega)
  exact ⟨by rw [e]; exact h.tk k0 k3, FcD.nx, Fg.tk, e, by unfold nxS; rw [stA, if_pos ⟨rfl, rfl⟩]; omega⟩
theorem CkQ.pk {N x : Int} {γ δ : St} (h : DcR N (δ 0 19) γ δ) : CkQ N x γ δ γ (pkS δ) := by
  have e := pkS_o δ 0 19 (by omega)
  exact ⟨by rw [e]; exact h.pk, FcD.rf, Fg.pk, e, Int.le_refl _⟩
theorem pq_b36 {N a0 s b x : Int} {γ δ : St} (h : DcR N (δ 0 19) γ δ) (hs : s = if b = 0 then 1 else 0) (hx : x = δ 4 (δ 0 18) + a0) (hx2 : x ≤ δ 0 19) : pq (bndN (f_Er_readClock_b36 γ a0 s) (ckK a0)) (f_M_group_b273 δ x b) (OuR (CkQ N x γ δ)) := by
  have ⟨h1, hN, hM, ⟨r1, r2, r3, r4, r5, r6⟩, h5, h6⟩ := h
  have hs2 : s = 0 ∨ s = 1 := by
    rw [hs]
    by_cases c : b = 0
    · rw [if_pos c]; exact Or.inr rfl
    · rw [if_neg c]; exact Or.inl rfl
  unfold f_Er_readClock_b36 f_Er_readClock_b105 f_M_group_b273 f_M_group_b307
  simp only [bN_N, bN_C, bN_I, bN_s, ap]
  refine pq_bl kind_pc (fun r γ1 e => ?_)
  cases e
  have hp : pkS δ 0 7 = sk δ := pk_7 δ
  have km : ∀ γ' : St, ckK a0 (-1) γ' = some (0, γ') := fun γ' => by unfold ckK; rw [if_neg (by decide)]
  simp only [km]
  refine pq_yn (w_nameHere h1.1.1) (fun q => ?_) (fun q => ?_)
  · have k1 : tK δ = 1 := q.1
    have a := h1.1.wd k1
    rw [if_pos (h1.1.nm.2 q), if_pos (by decide)]
    refine pq_br vHere_pc (fun r δ1 e => ?_)
    obtain ⟨r', e, F⟩ := e
    have e1 : r' = r := (congrArg Prod.fst e).symm
    have e2 : δ1 = pkS δ := congrArg Prod.snd e
    subst e1
    subst e2
    rw [pkS_o δ 4 _ (by omega), pkS_o δ 0 18 (by omega)] at F
    have fd := hN.find h1.1 k1 hx2 F
    refine pq_bl vNow_pc (fun r9 γ1 e => ?_)
    obtain ⟨e1, e2⟩ := e
    have e1 : γ1 = γ := e1
    have e2 : γ 22 (wdN γ) = γ 3 9 + 1 ∧ r9 = γ 21 (wdN γ) ∨ γ 22 (wdN γ) ≠ γ 3 9 + 1 ∧ r9 = -1 := e2
    subst e1
    refine pq_cl (fun _ => pq_cl (fun _ => ?_))
    rcases fd with ⟨f1, f2, f3⟩ | ⟨f1, f2⟩
    · have e3 : r9 = γ1 21 (wdN γ1) := by
        rcases e2 with e2 | e2
        · exact e2.2
        · exact absurd (by rw [r1]; exact f1) e2.1
      have e4 : γ1 25 (γ1 3 9) + r9 = r' := by rw [r1, r3]; omega
      rw [e4, if_neg (show ¬ r9 < 0 by omega), if_neg (show ¬ a0 ≤ r9 by omega), if_neg (show ¬ r' < 0 by omega)]
      have ty := (h5 r' (by omega) (by omega)).2.2 (by omega)
      refine pq_cl (fun _ => pq_cr (fun _ => ?_))
      rw [pkS_o δ 14 _ (by omega)]
      by_cases c : δ 14 r' = 1
      · rw [if_pos (show γ1 33 r' = 1 by omega), if_pos (show δ 14 r' ≠ 0 by omega)]
        refine pq_cl (fun _ => ?_)
        show pq _ (bndT (f_M_shallow_L4 f_M_shallow_b39 FU (pkS δ) 0 r') _) _
        have dp : DpR γ1 (pkS δ) := h.pk.2.2.2.2.2
        have sp := shallow_pc dp FU 0 r' (by rw [pkS_o δ 4 _ (by omega), pkS_o δ 0 18 (by omega)]; omega) (by rw [pkS_o δ 0 19 (by omega)]; omega)
        have d8 := (h6 r' (by omega) (by omega)).1
        refine pq_brT sp (fun e δ' k => ?_) (fun x' δ' k => ?_)
        · rcases k with ⟨k1, k2⟩ | ⟨k1, k2⟩
          · cases k2
          · cases k2
            rw [if_neg (by omega)]
            exact pq_fail0 h1 (by decide) hp
        · rcases k with ⟨k2, k3⟩ | ⟨k2, k3⟩
          · cases k3
            rw [if_pos (by omega)]
            refine pq_bl (step_pc h1.1 (by omega) (by omega)) (fun r γ2 e => ?_)
            cases e
            refine pq_er (tkM_eq h1.1.1.pk) ?_
            rw [tkS_pk h1.1.1]
            refine pq_cl (fun _ => pq_cl (fun i2 => ?_))
            have ht := h.tk (by omega) (by omega)
            have t4 : tkS δ 4 (tkS δ 0 18) = δ 4 (δ 0 18) := by rw [tkS_o δ 0 18 (by omega), tkS_o δ 4 _ (by omega)]
            have t19 := tkS_o δ 0 19 (by omega)
            have n35 : ∀ k, nxS γ1 35 k = γ1 35 k := fun k => nxS_o γ1 (by omega)
            have er : δ 4 (δ 0 18) + r9 = r' := by omega
            have hc := ht.ck (i := x) (r := r9) (s := s) (d := γ1 35 r' + 1) hs2 (by rw [t4]; omega) i2.2 (by omega) (by rw [t4, n35, er]) (by rw [t4, n35, er]; omega)
            unfold ckK
            rw [if_pos (show 0 ≤ 2 * r9 + s by omega)]
            refine pq_cl (fun _ => pq_al (pq_cl (fun _ => pq_al ?_)))
            have ef : nxS γ1 25 (nxS γ1 3 9) = δ 4 (δ 0 18) := by rw [nxS_o γ1 (by omega), nxS_o γ1 (by omega), r1, r3]
            rw [ef, ← hx]
            have eh : ishr (2 * r9 + s) 1 = r9 := by rw [ishr_1 i2]; omega
            refine pq_ckC (d := γ1 35 r' + 1) FU (nxS γ1) x (by rw [eh, n35, er]) (by rw [eh]; omega) ?_
            refine pq_ckD (c := 2 * r9 + s) FU (tkS δ) x (by rw [t4, ← hs]; omega) ?_
            have c19 : ckD (tkS δ) x (2 * r9 + s) 0 19 = δ 0 19 := (ckD_o _ x _ (by omega)).trans t19
            refine pq_some (OuR.ok ⟨by rw [c19]; exact hc, FcD.nx.tr (FcD.ck (Int.le_refl _)) (Int.le_refl _), Fg.tk.tr2 (Fg.ck (Int.le_refl _)) (Int.le_refl _), c19, ?_⟩)
            have e7 : nxS γ1 1 6 = γ1 1 6 + 1 := by unfold nxS; rw [stA, if_pos ⟨rfl, rfl⟩]
            rw [ckS_o _ x _ _ (by omega)]; omega
          · cases k3
      · have c0 : δ 14 r' = 0 := by omega
        rw [if_neg (show ¬ γ1 33 r' = 1 by omega), if_neg (show ¬ δ 14 r' ≠ 0 by omega)]
        exact pq_fail0 h1 (by decide) hp
    · rw [if_pos (show r' < 0 by omega)]
      rcases e2 with e2 | e2
      · have b0 := (hN.1 (wdN γ1) a.1.1 a.1.2 (by rw [← r1]; exact e2.1)).1
        have b1 := f2 (by rw [← r1]; exact e2.1)
        rw [if_neg (show ¬ r9 < 0 by omega), if_pos (show a0 ≤ r9 by omega)]
        exact pq_fail0 h1 (by decide) hp
      · rw [if_pos (show r9 < 0 by omega)]
        exact pq_fail0 h1 (by decide) hp
  · rw [if_neg (fun e => q (h1.1.nm.1 e)), if_neg (by decide), bndN_eq (cant_eq h1.1.1.pk), pkS_sk h1.1.1]
    exact pq_fail0 h1 (by decide) rfl
