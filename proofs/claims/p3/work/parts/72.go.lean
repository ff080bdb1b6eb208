/-! the law from its beginning -/
set_option maxHeartbeats 8000000 in
set_option maxRecDepth 100000 in
/-- the law answers true where its function does -/
theorem law_go {p : Program} {e : Env} {s : State} {m : MethodId} {below : List Frame} {meth : Method} {c : Code} (l : Launch) (hno : l.stackTraces = false) {b L : Nat} {xs : Nat → Int32} (hL : L ≤ 3072) (hf : f_law xs L 600 γ0 δ0 0 0 = some 1) (hex : c.exceptionTable.isEmpty = true) (C0 : lw_At p s m meth c b L xs) : W p l e room_1 s m #[Value.ref b] below meth c s.heap [] 0 0 (lw_Z below #[Value.ref b] s) (entryFrame m ([Value.ref b] : List Value).toArray 8) := by
  obtain ⟨hx, hb, hr, hml, hown0, hts, hX0, hbl, hlocks, hgv⟩ := C0
  have hown : s.vm.findClass R_L = some m.cls := hown0
  have hG := en_G hts
  obtain ⟨D, cI, cB, cJ, cZ, hK⟩ := en_K hG
  have hX := en_X hts hgv
  have hN := en_N hgv
  obtain ⟨ka, kt, hsk⟩ := en_S hts hgv
  obtain ⟨sa, sb, hR, -⟩ := en_s_M_321 hts hgv
  have hA : ∀ q : Nat, s.heap.size ≤ q → s.heap.size ≤ q := fun _ h => h
  have hbA : ¬ s.heap.size ≤ b := Nat.not_le.mpr hbl
  generalize hAe : (fun q => s.heap.size ≤ q : Nat → Prop) = A at hX hsk
  have hA : ∀ q : Nat, s.heap.size ≤ q → A q := fun q h => by rw [← hAe]; exact h
  have hbA : ¬ A b := by rw [← hAe]; exact hbA
  have hAq : ∀ q : Nat, A q → s.heap.size ≤ q := fun q h => by rw [← hAe] at h; exact h
  have hP : va_P D kl [] s.heap := fun k q h => by simp at h
  have hD : va_D A [] := ⟨fun i j p q h => by simp at h, fun k q h => by simp at h⟩
  have hS : va_S A s.heap s.heap [] := va_S.rf
  have hl := lv_entry ([Value.ref b]) (n := 8) (Nat.le_of_ble_eq_true rfl)
  rw [lg_entry_eq]
  generalize (lg_sl ([Value.ref b]) ++ List.replicate (8 - (lg_sl ([Value.ref b])).length) Slot.unset).toArray = ls at hl ⊢
  have hl : lv_has ls 8 [(0, .ref b)] := hl
  refine va_new (ci := 0) (fs := [.null, .null, .null, .null, .null, .null, .null, .null, .null, .null, .int 0, .int 0, .int 0, .int 0, .int 0]) (C := R_S) (T := T_S) (N := 15) hx hb hG gi_S ty_S to_S hown (hG _ cl_L_8) (hG _ ia_S) (hG _ in_S) hK hP hD hS hA rfl (fun j hj => by rcases (show j = 0 ∨ j = 1 ∨ j = 2 ∨ j = 3 ∨ j = 4 ∨ j = 5 ∨ j = 6 ∨ j = 7 ∨ j = 8 ∨ j = 9 ∨ j = 10 ∨ j = 11 ∨ j = 12 ∨ j = 13 ∨ j = 14 by omega) with rfl | rfl | rfl | rfl | rfl | rfl | rfl | rfl | rfl | rfl | rfl | rfl | rfl | rfl | rfl <;> rfl) (Nat.le_of_ble_eq_true rfl) (Nat.le_of_ble_eq_true rfl) d_L_law_0 (fun q2 H hP hD hS => ?_)
  have hP : va_P D kl [(q2, .inr (0, [.null, .null, .null, .null, .null, .null, .null, .null, .null, .null, .int 0, .int 0, .int 0, .int 0, .int 0]))] H := hP
  have hD : va_D A [(q2, .inr (0, [.null, .null, .null, .null, .null, .null, .null, .null, .null, .null, .int 0, .int 0, .int 0, .int 0, .int 0]))] := hD
  refine W.widen (k := 1) (n := 15) (Nat.le_of_ble_eq_true rfl) (Nat.le_of_ble_eq_true rfl) ?_
  refine lv_dup hx hb d_L_law_3 rfl ?_
  have hPc := hP.sub (ws' := [(q2, .inr (0, [.null, .null, .null, .null, .null, .null, .null, .null, .null, .null, .int 0, .int 0, .int 0, .int 0, .int 0]))]) [0] rfl
  have hDc := hD.sub (ws' := [(q2, .inr (0, [.null, .null, .null, .null, .null, .null, .null, .null, .null, .null, .int 0, .int 0, .int 0, .int 0, .int 0]))]) [0] (by decide) rfl
  have hFc := va_free (wc := [(q2, .inr (0, [.null, .null, .null, .null, .null, .null, .null, .null, .null, .null, .int 0, .int 0, .int 0, .int 0, .int 0]))]) hD hS hA [0] rfl
  refine va_callv (va_runI (As := []) (rest := [.ref q2]) ⟨hx, hb, hml, hown, hG⟩ (c_S_init l D cI cB cJ cZ H.size q2 ka kt) (gcI 0 gG_good hG ml_L_51 im_S_init in_S co_S_init rfl rfl rfl (by decide +kernel) ⟨(Nat.le_of_ble_eq_true rfl), (Nat.le_of_ble_eq_true rfl)⟩) (sk_pre hPc hK hDc hsk hS hFc) rfl rfl hl.1 rfl (lv_room (Nat.le_of_ble_eq_true rfl)) d_L_law_4 ⟨(Nat.le_of_ble_eq_true rfl), (Nat.le_of_ble_eq_true rfl)⟩) hS (fun q _ h => hFc q h) hFc (fun _ t H1 locs ht hvm hw hB hz1 hk1 hS => ?_)
  obtain ⟨aS, hq2, hP1, hD1⟩ := S_pack (cZ := cZ) hB
  rw [ht] at hP1
  obtain ⟨hP, hD⟩ := va_join (wr := []) (w1 := wS0 cI cB cJ aS) hP hD [0] [] rfl rfl (by decide) (by decide) hk1 hFc hP1 hD1
  replace hP : va_P D kl (wS0 cI cB cJ aS) H1 := hP
  replace hD : va_D A (wS0 cI cB cJ aS) := hD
  generalize hwS : wS0 cI cB cJ aS = wS at hP hD
  have hlen : wS.length = 88 := by rw [← hwS]; rfl
  generalize H1 = H at hP hS ⊢
  refine W.widen (k := 88) (n := 989962) (Nat.le_of_ble_eq_true rfl) (Nat.le_of_ble_eq_true rfl) ?_
  refine lv_astore_n (lv' := [(1, .ref q2), (0, .ref b)]) hx hb d_L_law_7 rfl hl (by decide) rfl (fun ls hl => ?_)
  refine va_new (ci := 12) (fs := [.null, .int 0, .int 0, .int 0, .int 0, .int 0, .int 0, .int 0, .int 0, .int 0, .null, .null, .null, .null, .null, .null, .null, .null, .int 0, .int 0, .null, .null, .null, .null, .null, .null, .null, .null, .null, .null, .int 0, .int 0, .null, .null, .null, .null, .null, .null, .null, .null, .int 0, .null, .int 0, .null, .null, .null, .null, .null, .null, .int 0, .int 0, .int 0, .int 0, .int 0, .int 0, .int 0, .null, .null, .null, .null, .null, .null, .null, .null, .null, .null, .null, .int 0, .null, .null, .null, .null, .int 0, .null, .null, .null, .null, .null, .null, .null, .null, .null, .int 0, .int 0]) (C := R_M) (T := T_M) (N := 84) hx hb hG gi_M ty_M to_M hown (hG _ cl_L_52) (hG _ ia_M) (hG _ in_M) hK hP hD hS hA rfl (fun j hj => by rcases (show j = 0 ∨ j = 1 ∨ j = 2 ∨ j = 3 ∨ j = 4 ∨ j = 5 ∨ j = 6 ∨ j = 7 ∨ j = 8 ∨ j = 9 ∨ j = 10 ∨ j = 11 ∨ j = 12 ∨ j = 13 ∨ j = 14 ∨ j = 15 ∨ j = 16 ∨ j = 17 ∨ j = 18 ∨ j = 19 ∨ j = 20 ∨ j = 21 ∨ j = 22 ∨ j = 23 ∨ j = 24 ∨ j = 25 ∨ j = 26 ∨ j = 27 ∨ j = 28 ∨ j = 29 ∨ j = 30 ∨ j = 31 ∨ j = 32 ∨ j = 33 ∨ j = 34 ∨ j = 35 ∨ j = 36 ∨ j = 37 ∨ j = 38 ∨ j = 39 ∨ j = 40 ∨ j = 41 ∨ j = 42 ∨ j = 43 ∨ j = 44 ∨ j = 45 ∨ j = 46 ∨ j = 47 ∨ j = 48 ∨ j = 49 ∨ j = 50 ∨ j = 51 ∨ j = 52 ∨ j = 53 ∨ j = 54 ∨ j = 55 ∨ j = 56 ∨ j = 57 ∨ j = 58 ∨ j = 59 ∨ j = 60 ∨ j = 61 ∨ j = 62 ∨ j = 63 ∨ j = 64 ∨ j = 65 ∨ j = 66 ∨ j = 67 ∨ j = 68 ∨ j = 69 ∨ j = 70 ∨ j = 71 ∨ j = 72 ∨ j = 73 ∨ j = 74 ∨ j = 75 ∨ j = 76 ∨ j = 77 ∨ j = 78 ∨ j = 79 ∨ j = 80 ∨ j = 81 ∨ j = 82 ∨ j = 83 by omega) with rfl | rfl | rfl | rfl | rfl | rfl | rfl | rfl | rfl | rfl | rfl | rfl | rfl | rfl | rfl | rfl | rfl | rfl | rfl | rfl | rfl | rfl | rfl | rfl | rfl | rfl | rfl | rfl | rfl | rfl | rfl | rfl | rfl | rfl | rfl | rfl | rfl | rfl | rfl | rfl | rfl | rfl | rfl | rfl | rfl | rfl | rfl | rfl | rfl | rfl | rfl | rfl | rfl | rfl | rfl | rfl | rfl | rfl | rfl | rfl | rfl | rfl | rfl | rfl | rfl | rfl | rfl | rfl | rfl | rfl | rfl | rfl | rfl | rfl | rfl | rfl | rfl | rfl | rfl | rfl | rfl | rfl | rfl | rfl <;> rfl) (Nat.le_of_ble_eq_true rfl) (Nat.le_of_ble_eq_true rfl) d_L_law_8 (fun q5 H hP hD hS => ?_)
  refine W.widen (k := 89) (n := 990046) (Nat.le_of_ble_eq_true rfl) (Nat.le_of_ble_eq_true rfl) ?_
  refine lv_dup hx hb d_L_law_11 rfl ?_
  have hPc := hP.sub (ws' := [(q5, .inr (12, [.null, .int 0, .int 0, .int 0, .int 0, .int 0, .int 0, .int 0, .int 0, .int 0, .null, .null, .null, .null, .null, .null, .null, .null, .int 0, .int 0, .null, .null, .null, .null, .null, .null, .null, .null, .null, .null, .int 0, .int 0, .null, .null, .null, .null, .null, .null, .null, .null, .int 0, .null, .int 0, .null, .null, .null, .null, .null, .null, .int 0, .int 0, .int 0, .int 0, .int 0, .int 0, .int 0, .null, .null, .null, .null, .null, .null, .null, .null, .null, .null, .null, .int 0, .null, .null, .null, .null, .int 0, .null, .null, .null, .null, .null, .null, .null, .null, .null, .int 0, .int 0]))]) [88] (fm_of (ap_last hlen))
  have hDc := hD.sub (ws' := [(q5, .inr (12, [.null, .int 0, .int 0, .int 0, .int 0, .int 0, .int 0, .int 0, .int 0, .int 0, .null, .null, .null, .null, .null, .null, .null, .null, .int 0, .int 0, .null, .null, .null, .null, .null, .null, .null, .null, .null, .null, .int 0, .int 0, .null, .null, .null, .null, .null, .null, .null, .null, .int 0, .null, .int 0, .null, .null, .null, .null, .null, .null, .int 0, .int 0, .int 0, .int 0, .int 0, .int 0, .int 0, .null, .null, .null, .null, .null, .null, .null, .null, .null, .null, .null, .int 0, .null, .null, .null, .null, .int 0, .null, .null, .null, .null, .null, .null, .null, .null, .null, .int 0, .int 0]))]) [88] (by decide) (ap_last hlen)
  have hFc := va_free (wc := [(q5, .inr (12, [.null, .int 0, .int 0, .int 0, .int 0, .int 0, .int 0, .int 0, .int 0, .int 0, .null, .null, .null, .null, .null, .null, .null, .null, .int 0, .int 0, .null, .null, .null, .null, .null, .null, .null, .null, .null, .null, .int 0, .int 0, .null, .null, .null, .null, .null, .null, .null, .null, .int 0, .null, .int 0, .null, .null, .null, .null, .null, .null, .int 0, .int 0, .int 0, .int 0, .int 0, .int 0, .int 0, .null, .null, .null, .null, .null, .null, .null, .null, .null, .null, .null, .int 0, .null, .null, .null, .null, .int 0, .null, .null, .null, .null, .null, .null, .null, .null, .null, .int 0, .int 0]))]) hD hS hA [88] (ap_last hlen)
  refine va_callv (va_runI (As := []) (rest := [.ref q5]) ⟨hx, hb, hml, hown, hG⟩ (c_M_init l D cI cB cJ cZ H.size q5) (gcI 0 gG_good hG ml_L_54 im_M_init in_M co_M_init rfl rfl rfl (by decide +kernel) ⟨(Nat.le_of_ble_eq_true rfl), (Nat.le_of_ble_eq_true rfl)⟩) (ct_pre hPc hK hDc) rfl rfl hl.1 rfl (lv_room (Nat.le_of_ble_eq_true rfl)) d_L_law_12 ⟨(Nat.le_of_ble_eq_true rfl), (Nat.le_of_ble_eq_true rfl)⟩) hS (fun q _ h => hFc q h) hFc (fun _ t H1 locs ht hvm hw hB hz1 hk1 hS => ?_)
  obtain ⟨aM, hq5, hP1, hD1⟩ := M_pack (cJ := cJ) hB
  rw [ht] at hP1
  obtain ⟨hP, hD⟩ := va_join (wr := wS) (w1 := wM0 cI cB cZ aM) hP hD [88] (List.range 88) (ap_last hlen) (ap_range hlen) (by decide) (by decide) hk1 hFc hP1 hD1
  generalize hwM : wM0 cI cB cZ aM = wM at hP hD
  generalize H1 = H at hP hS ⊢
  refine W.widen (k := 147) (n := 2259526) (Nat.le_of_ble_eq_true rfl) (Nat.le_of_ble_eq_true rfl) ?_
  refine lv_astore_n (lv' := [(2, .ref q5), (1, .ref q2), (0, .ref b)]) hx hb d_L_law_15 rfl hl (by decide) rfl (fun ls hl => ?_)
  refine lv_iconst (v := 1) hx hb d_L_law_16 (by decide) ?_
  refine ra_new (atype := .long) (D := D) hx hb (hG _ ac_long) rfl (fun _ h => by cases h) hK hP hD hS hA 2 rfl (1, .inr (.inl (fun _ => 0))) (fun _ => rfl) (by decide +kernel) (by decide +kernel) (Nat.le_of_ble_eq_true rfl) (Nat.le_of_ble_eq_true rfl) (Nat.le_of_ble_eq_true rfl) d_L_law_17 (fun q8 H hP hD hS => ?_)
  have hP : va_P D kl ((wS ++ wM) ++ [wO cJ q8]) H := hP
  have hD : va_D A ((wS ++ wM) ++ [wO cJ q8]) := hD
  refine W.widen (k := 148) (n := 2259527) (Nat.le_of_ble_eq_true rfl) (Nat.le_of_ble_eq_true rfl) ?_
  refine lv_astore_n (lv' := [(3, .ref q8), (2, .ref q5), (1, .ref q2), (0, .ref b)]) hx hb d_L_law_19 rfl hl (by decide) rfl (fun ls hl => ?_)
  refine lv_iconst (v := iI 0) hx hb d_L_law_20 (by decide) ?_
  refine lv_istore (lv' := [(4, vI 0), (3, .ref q8), (2, .ref q5), (1, .ref q2), (0, .ref b)]) hx hb d_L_law_21 hl (by decide) rfl (fun ls hl => ?_)
  obtain ⟨σ, hσ⟩ := Classical.axiomOfChoice (en_kw hts hgv)
  obtain ⟨a, ha⟩ : ∃ a : Nat → Nat, a = fun j => if j < 88 then aS j else if j < 147 then aM (j - 88) else q8 := ⟨_, rfl⟩
  have a1 : ∀ j, j < 88 → aS j = a j := fun j hj => by rw [ha]; show _ = if j < 88 then _ else _; rw [if_pos hj]
  have a2 : ∀ j, j < 59 → aM j = a (88 + j) := fun j hj => by rw [ha]; show _ = if 88 + j < 88 then _ else if 88 + j < 147 then _ else _; rw [if_neg (by omega), if_pos (by omega)]; congr 1; omega
  have a3 : q8 = a 147 := by rw [ha]; rfl
  rw [← hwS, ← hwM, wS0_cong a1, wM0_cong a2, a3] at hP hD
  have hP := hP.sub wIs (fm_of (wL0_B (l := l) (D := D) (cJ := cJ) (cZ := cZ) (σ := σ)))
  have hD := hD.sub wIs (by decide +kernel) (wL0_B (l := l) (D := D) (cJ := cJ) (cZ := cZ) (σ := σ))
  generalize hΓ : ((l, D, (cI, cB, cJ, cZ), σ, a) : Ctx) = Γ at hP hD
  have hl : lv_has ls 8 [(4, vI 0), (0, .ref b), (1, vR Γ 0), (2, vR Γ 88), (3, vR Γ 147)] := by
    have h1 := lv_sub hl [0, 4, 3, 2, 1] rfl
    rw [← hq2, ← hq5, a1 0 (by decide), a2 0 (by decide), a3] at h1
    rw [← hΓ]
    exact h1
  have hap : apB Γ BL := fun i j hi hj e => hD.1 i j _ _ (wB_get (List.getElem?_eq_getElem hi)) (wB_get (List.getElem?_eq_getElem hj)) (by show Ctx.a Γ (0 + i) = Ctx.a Γ (0 + j); rw [Nat.zero_add, Nat.zero_add]; exact e)
  have had : ∀ q, adB Γ BL q → s.heap.size ≤ q := by
    rintro q ⟨j, hj, rfl⟩
    have h1 := hD.2 j _ (wB_get (List.getElem?_eq_getElem hj))
    have h2 := hAq _ h1
    rw [Nat.zero_add] at h2
    exact h2
  have hmA : ∀ q, mA Γ BL s.heap.size q → s.heap.size ≤ q := fun q h => h.elim (had q) id
  have hE : mE (Ctx.σ Γ) (mA Γ BL s.heap.size) s s.heap := by
    have h1 : mE σ (fun q => s.heap.size ≤ q) s s.heap := ⟨en_X hts hgv, en_E hts hgv, hσ, en_mN hts hgv⟩
    rw [← hΓ] at hmA ⊢
    exact h1.narrow hmA
  have X : CX Γ BL mt_L_law room_1 p s m #[Value.ref b] meth c := ⟨hx, hb, hml, hown, hG, by rw [← hΓ]; exact hK, hap, hE, hr, hlocks, fun h => hex, fun _ => en_tab hex, fun q h cell hc => absurd (Array.getElem?_eq_some_iff.mp hc).1 (Nat.not_lt.mpr (had q h))⟩
  have hS2 : va_S (mA Γ BL s.heap.size) s.heap H locs := ⟨hS.1, fun q h1 h2 => hS.2.1 q h1 (fun h3 => absurd h1 (Nat.not_lt.mpr (hAq q h3))), fun z hz => Or.inr (hAq _ (hS.2.2 z hz))⟩
  have hl0 : Ctx.l Γ = l := by rw [← hΓ]
  have key := s_law (Γ := Γ) (by rw [hl0]; exact hno) (b := b) (xs := xs) hL 600 γ0 δ0 0 0 148 2259527 (by decide) (by decide) (by decide) 1 hf p e s m #[Value.ref b] below meth c H locs ls X ⟨Nat.le_of_ble_eq_true rfl, Nat.le_of_ble_eq_true rfl⟩ (WL WB_γ0 WB_δ0) hl (by rw [← hΓ] at hP ⊢; exact hP) hS2 ⟨hX0, hbl, had, rfl⟩
  rw [hl0] at key
  exact key
