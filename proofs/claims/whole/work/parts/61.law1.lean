/-! the law's world: the class's cells, the reference's, the row for answers; calls in it -/
theorem gd_consW {Ts : List Cond} {w : Cond} (hT : GoodIn Ts gG) (h5 : w ∈ gG) : GoodIn Ts (w :: gG) := fun w9 h => (List.mem_cons.mp h).elim (fun e => by subst e; exact hT _ h5) (hT w9)
section MV
variable {p : Program} {l : Launch} {e : Env} {R : Room} {s : State} {m : MethodId} {args : Array Value} {below : List Frame} {meth : Method} {c : Code} {H : Heap} {locs : List Loc} {cells slots : Nat} {Q : State → Prop}
/-- 'invokevirtual' of a method with a table -/
theorem mx_runV {y : MethodName} {bytes cc : ByteArray} {maxL nL mc ms n index : Nat} {ret : Option FieldType} {hh : List (Nat × Nat × Nat × Nat)} {ws : List Cond} {rm : Room} {Pc : Array Value → State → Prop} {Qc : Array Value → State → Outcome → State → Prop} {free : Addr → Prop} {Ts : List Cond} {own C : String} {b : Addr} {As rest : List Value} {g : JFrame}
    (S : CallFix p m c cc nL s args Ts own) (hM : Met l y ws rm Pc Qc mc ms free) (hG : GoodIn Ts ws) (hcw : Cond.codeWith y bytes maxL ret hh ∈ ws) (hl : (Cond.methodLink own index y).before args s = true) (hin : (Cond.instanceMethod y).before args s = true) (hse : (Cond.selects C y y).before args s = true) (hini : (Cond.initialized y.cls).before args s = true)
    (hrc : rm.cells = mc) (hrs : rm.slots = ms) (hd : y.cls ≠ "java/lang/invoke/MethodHandle" ∧ y.cls ≠ "java/lang/invoke/VarHandle" ∧ (parseMethodDescriptor y.desc).map (fun d => d.parameters.length) = some n) (hR : rm.frames + 1 ≤ R.frames ∧ 8 + (maxL + 11) + rm.locals ≤ R.locals) (hp : PreV s H C b Pc As)
    (hg : g.method = m) (hn : As.length = n) (hsize : g.locals.size = nL) (hstack : g.stack = As.reverse ++ .ref b :: rest) (hW : 2 * g.monitorRoom + (rest.map fun v => v.category).sum ≤ 8) (hdg : decode cc g.pc = .ok (.invokevirtual index, 3)) (hf : cells + mc ≤ R.cells ∧ slots + ms ≤ R.slots) :
    va_Run p l e R s m args below meth c H locs cells slots mc ms g rest (Qc (Value.ref b :: As).toArray) (free) := by
  obtain ⟨hx, hb, hml, ho, ht⟩ := S
  have hK : Back l R p e below s args y 3 8 (PreOf R mc ms Pc) (PostOf Qc mc ms free) := mx_back (hh := hh) (bytes := bytes) (maxL := maxL) (ret := ret) hM hp.1 hrc hrs hR.1 hR.2 (pay_in ht hG) hcw (fun a' U hW => word_at hW (Or.inl (by first | rfl | simp [Cond.onTables, Cond.keeps, Cond.steady])) hini)
  have hcode : (Cond.codeWith y bytes maxL ret hh).before args s = true := ht _ (hG _ hcw).1
  obtain ⟨-, ⟨cellB, hcB, hoB, hclB⟩, hPc⟩ := hp
  intro T hT X
  obtain ⟨mk, methM, hnamed, hmethM, hstM, habM⟩ := Cond.instanceMethod_spec hin
  obtain ⟨mk', methM', cM, hnamed', hmethM', -, -, -, -, -, -, hsigM⟩ := Cond.codeWith_spec hcode
  cases hnamed.symm.trans hnamed'
  cases hmethM.symm.trans hmethM'
  obtain ⟨c2, r2, m2, q1, q2, q3, q4, kP, hkP, hkPi⟩ := Cond.selects_spec hse
  cases hclB.symm.trans q1
  cases (State.methodFound?_of_named hnamed ⟨hd.1, hd.2.1⟩).symm.trans q2
  cases hnamed.symm.trans q3
  have hselP : selectMethod e.platform s.vm cellB.cls mk = .method mk := by rw [Launch.admits_selectMethod X.admits]; exact q4
  have hlen : As.length = methM.sig.parameters.length := by
    have h2 := hd.2.2
    rw [hsigM] at h2
    exact hn.trans (Option.some.inj h2).symm
  obtain ⟨vm₁, X₁, hstep₁⟩ := X.invokevirtual hx ho hl hnamed hmethM hstM hkP hkPi ⟨hd.1, hd.2.1⟩ (a := b) (cell := cellB) (by rw [hT]; exact hcB)
    (fun z h => by rw [h] at hoB; cases hoB) hselP hmethM habM hkP hkPi (g := g) hg (argsL := As) (rest := rest) hlen hstack (by rw [hb]; exact hdg)
  obtain ⟨v, ⟨U', l2, c2', s2⟩, X', ⟨g', mk', t, L, e1, e2, hq, h1, hL, h2, h3⟩, hsteps⟩ := hK m meth c ⟨T.setVm vm₁, locs, cells, slots⟩ { g with stack := rest } (.invokevirtual index) mk (Value.ref b :: As).toArray X₁ hg (hsize.trans hml.symm) (by rw [hb]; exact hdg) hW (X₁.named hnamed) ⟨hf.1, hf.2, hPc (T.setVm vm₁) hT X₁.warmed⟩
  dsimp only [Pt.U, Pt.locs, Pt.cells, Pt.slots] at X' e1 e2 h1 h2 h3 hsteps
  subst h1; subst h2; subst h3
  exact ⟨v, (T.setVm vm₁).calling g' mk' (Value.ref b :: As).toArray, t, U', L, hT, X', hL, e1, e2, hq, fun target h => hstep₁ _ fun acts => by rw [doInvoke_state]; exact hsteps.trans h⟩
/-- a place of the script -/
theorem lw_sld {cc : ByteArray} {pc : Nat} {ls : Array Slot} {rest : List Value} {A : Nat → Prop} (hexec : p.tables.exec = Jvm.exec) (hb : c.code = cc) {b L : Nat} {xs : Nat → Int32} (hX : va_X b L xs s s.heap) (hbl : b < s.heap.size) (hbA : ¬ A b) (hS : va_S A s.heap H locs) {ix : Int32} (j : Nat) (e1 : ix = nI j) (hj : j < L) (hL : L < 2 ^ 31) (hdg : decode cc pc = .ok (.iaload, 1))
    (kk : W p l e R s m args below meth c H locs cells slots Q (F0 m (pc + 1) ls (.int (xs j) :: rest))) : W p l e R s m args below meth c H locs cells slots Q (F0 m pc ls (.int ix :: .ref b :: rest)) := by
  subst e1
  refine va_sld hexec hb hX hbl hbA hS (vp_in_nI hj hL) hdg ?_
  rw [nI_clamp (Nat.lt_trans hj hL)]
  exact kk
end MV
theorem xt_L {L : List Loc} (h : ∀ z ∈ L, (fun _ : Nat => False) z.base) : L = [] := by
  cases L with
  | nil => rfl
  | cons a t => exact (h a List.mem_cons_self).elim
theorem xt_keepP {D : va_G} {cl : List vw_C} {ws : va_W} {H H1 : Heap} (hP : va_P D cl ws H) (h : ∀ q : Nat, q < H.size → H1[q]? = H[q]?) : va_P D cl ws H1 := hP.kept (fun k q hk => h q.1 ((hP k q hk).lt))
theorem xt_keepS {A : Nat → Prop} {H0 H H1 : Heap} {locs : List Loc} (hS : va_S A H0 H locs) (hz : H.size ≤ H1.size) (h : ∀ q : Nat, q < H.size → H1[q]? = H[q]?) : va_S A H0 H1 locs := ⟨Nat.le_trans hS.1 hz, fun q h1 h2 => (h q (Nat.lt_of_lt_of_le h1 hS.1)).trans (hS.2.1 q h1 h2), hS.2.2⟩
def shX (n : Nat) (x : (Nat × Nat) ⊕ (Nat × List Nat)) : (Nat × Nat) ⊕ (Nat × List Nat) := match x with
  | .inl q => .inl q
  | .inr q => .inr (q.1, q.2.map fun r => match r with | 0 => 0 | r + 1 => n + r + 1)
abbrev Ctx.sh (Γ : Ctx) (n : Nat) : Ctx := (Γ.1, Γ.2.1, Γ.2.2.1, Γ.2.2.2.1, fun j => Γ.2.2.2.2 (n + j))
def BL : Tb := BS ++ (BM.map (shX 88) ++ [.inl (2, 1)])
def cmb (γ δ : St) (w : Int) : St := fun j => if j < 88 then γ j else if j < 147 then δ (j - 88) else if j = 147 then fun i => if i = 0 then w else 0 else if (j - 148) % 2 = 0 then γ (88 + (j - 148) / 2) else δ (59 + (j - 148) / 2)
theorem BS_len : BS.length = 88 := rfl
theorem BM_len : BM.length = 59 := rfl
theorem BL_len : BL.length = 148 := by
  unfold BL
  rw [List.length_append, List.length_append, List.length_map, BS_len, BM_len]
  rfl
theorem wB_app {Γ : Ctx} {γ : St} : ∀ {A C : Tb} {n : Nat}, wB Γ γ n (A ++ C) = wB Γ γ n A ++ wB Γ γ (n + A.length) C := by
  intro A
  induction A with
  | nil => intro C n; simp [wB]
  | cons x T ih =>
    intro C n
    show (Γ.a n, ek Γ (γ n) x) :: wB Γ γ (n + 1) (T ++ C) = (Γ.a n, ek Γ (γ n) x) :: (wB Γ γ (n + 1) T ++ wB Γ γ (n + (T.length + 1)) C)
    rw [ih, show n + 1 + T.length = n + (T.length + 1) by omega]
theorem wB_cong {Γ : Ctx} {γ γ' : St} : ∀ {B : Tb} {n : Nat}, (∀ j, n ≤ j → j < n + B.length → γ j = γ' j) → wB Γ γ n B = wB Γ γ' n B := by
  intro B
  induction B with
  | nil => intro n _; rfl
  | cons x T ih =>
    intro n h
    show (Γ.a n, ek Γ (γ n) x) :: wB Γ γ (n + 1) T = (Γ.a n, ek Γ (γ' n) x) :: wB Γ γ' (n + 1) T
    rw [h n (Nat.le_refl _) (by simp), ih (fun j h1 h2 => h j (by omega) (by simp; omega))]
theorem fvals_sh {a : Nat → Nat} {f : Int → Int} {n : Nat} : ∀ {ks : List Nat} {k : Nat}, fvals a f k (ks.map fun r => match r with | 0 => 0 | r + 1 => n + r + 1) = fvals (fun j => a (n + j)) f k ks := by
  intro ks
  induction ks with
  | nil => intro k; rfl
  | cons y T ih =>
    intro k
    cases y with
    | zero => show _ :: _ = _ :: _; rw [ih]
    | succ r => show _ :: _ = _ :: _; rw [ih]
theorem ek_sh {Γ : Ctx} {f : Int → Int} {n : Nat} {x : (Nat × Nat) ⊕ (Nat × List Nat)} : ek Γ f (shX n x) = ek (Γ.sh n) f x := by
  cases x with
  | inl q => rfl
  | inr q =>
    exact congrArg (fun z => (Sum.inr (q.1, z) : va_E)) fvals_sh
theorem wB_shift {Γ : Ctx} {γ : St} {n : Nat} : ∀ {B : Tb} {j : Nat}, wB Γ γ (n + j) (B.map (shX n)) = wB (Γ.sh n) (fun i => γ (n + i)) j B := by
  intro B
  induction B with
  | nil => intro j; rfl
  | cons x T ih =>
    intro j
    show (Γ.a (n + j), ek Γ (γ (n + j)) (shX n x)) :: wB Γ γ (n + j + 1) (T.map (shX n)) = (Γ.a (n + j), ek (Γ.sh n) (γ (n + j)) x) :: wB (Γ.sh n) (fun i => γ (n + i)) (j + 1) T
    rw [ek_sh, show n + j + 1 = n + (j + 1) by omega, ih]
abbrev oC (Γ : Ctx) (w : Int) : Nat × va_E := (Γ.a 147, .inl (cT Γ 2, 1, .inr (.inl (fun k : Nat => iL (if (k : Int) = 0 then w else 0)))))
theorem wL_eq {Γ : Ctx} {γ δ : St} {w : Int} : wB Γ (cmb γ δ w) 0 BL = wB Γ γ 0 BS ++ (wB (Γ.sh 88) δ 0 BM ++ [oC Γ w]) := by
  unfold BL
  rw [wB_app, wB_app]
  have e1 : wB Γ (cmb γ δ w) 0 BS = wB Γ γ 0 BS := wB_cong (fun j _ h => by
    have h : j < 88 := by rw [BS_len] at h; omega
    unfold cmb
    rw [if_pos h])
  have e2 : wB Γ (cmb γ δ w) (0 + BS.length) (BM.map (shX 88)) = wB (Γ.sh 88) δ 0 BM := by
    rw [BS_len]
    show wB Γ (cmb γ δ w) (88 + 0) (BM.map (shX 88)) = _
    rw [wB_shift]
    refine wB_cong (fun j _ h => ?_)
    have h : j < 59 := by rw [BM_len] at h; omega
    unfold cmb
    rw [if_neg (by omega), if_pos (by omega), Nat.add_sub_cancel_left]
  rw [e1, e2]
  congr 2
theorem wL_split {Γ : Ctx} {γ δ : St} {w : Int} {H : Heap} (h : va_P Γ.D kl (wB Γ (cmb γ δ w) 0 BL) H) : va_P Γ.D kl (wB Γ γ 0 BS) H ∧ va_P Γ.D kl (wB (Γ.sh 88) δ 0 BM) H ∧ va_P Γ.D kl [oC Γ w] H := by
  rw [wL_eq] at h
  refine ⟨fun k q hk => h k q (by rw [List.getElem?_append_left (List.getElem?_eq_some_iff.mp hk).1]; exact hk), fun k q hk => h (88 + k) q ?_, fun k q hk => h (147 + k) q ?_⟩
  · rw [List.getElem?_append_right (by rw [wB_len, BS_len]; omega), wB_len, BS_len, Nat.add_sub_cancel_left, List.getElem?_append_left (List.getElem?_eq_some_iff.mp hk).1]
    exact hk
  · rw [List.getElem?_append_right (by rw [wB_len, BS_len]; omega), wB_len, BS_len, List.getElem?_append_right (by rw [wB_len, BM_len]; omega), wB_len, BM_len, show 147 + k - 88 - 59 = k by omega]
    exact hk
theorem wL_join {Γ : Ctx} {γ δ : St} {w : Int} {H : Heap} (h1 : va_P Γ.D kl (wB Γ γ 0 BS) H) (h2 : va_P Γ.D kl (wB (Γ.sh 88) δ 0 BM) H) (h3 : va_P Γ.D kl [oC Γ w] H) : va_P Γ.D kl (wB Γ (cmb γ δ w) 0 BL) H := by
  rw [wL_eq]
  exact h1.app (h2.app h3)
theorem adS {Γ : Ctx} {q : Nat} (h : adB Γ BS q) : adB Γ BL q := by
  obtain ⟨j, hj, rfl⟩ := h
  exact ⟨j, by rw [BS_len] at hj; rw [BL_len]; omega, rfl⟩
theorem adM {Γ : Ctx} {q : Nat} (h : adB (Γ.sh 88) BM q) : adB Γ BL q := by
  obtain ⟨j, hj, rfl⟩ := h
  exact ⟨88 + j, by rw [BM_len] at hj; rw [BL_len]; omega, rfl⟩
theorem apS {Γ : Ctx} (h : apB Γ BL) : apB Γ BS := fun i j hi hj e => h i j (by rw [BS_len] at hi; rw [BL_len]; omega) (by rw [BS_len] at hj; rw [BL_len]; omega) e
theorem apM {Γ : Ctx} (h : apB Γ BL) : apB (Γ.sh 88) BM := fun i j hi hj e => by
  have := h (88 + i) (88 + j) (by rw [BM_len] at hi; rw [BL_len]; omega) (by rw [BM_len] at hj; rw [BL_len]; omega) e
  omega
theorem nSM {Γ : Ctx} (h : apB Γ BL) {q : Nat} (a : adB Γ BS q) : ¬ adB (Γ.sh 88) BM q := by
  obtain ⟨i, hi, rfl⟩ := a
  rintro ⟨j, hj, e⟩
  have := h i (88 + j) (by rw [BS_len] at hi; rw [BL_len]; omega) (by rw [BM_len] at hj; rw [BL_len]; omega) e
  rw [BS_len] at hi
  omega
theorem nSO {Γ : Ctx} (h : apB Γ BL) : ¬ adB Γ BS (Γ.a 147) := by
  rintro ⟨j, hj, e⟩
  have := h 147 j (by rw [BL_len]; omega) (by rw [BS_len] at hj; rw [BL_len]; omega) e
  rw [BS_len] at hj
  omega
theorem nMO {Γ : Ctx} (h : apB Γ BL) : ¬ adB (Γ.sh 88) BM (Γ.a 147) := by
  rintro ⟨j, hj, e⟩
  have := h 147 (88 + j) (by rw [BL_len]; omega) (by rw [BM_len] at hj; rw [BL_len]; omega) e
  rw [BM_len] at hj
  omega
theorem lgL_S {j : Nat} (h : j < 88) : lgB BL j = lgB BS j := by
  unfold lgB BL
  rw [List.getElem?_append_left (by rw [BS_len]; exact h)]
theorem lgL_M {j : Nat} (h : j < 59) : lgB BL (88 + j) = lgB BM j := by
  unfold lgB BL
  rw [List.getElem?_append_right (by rw [BS_len]; omega), BS_len, Nat.add_sub_cancel_left, List.getElem?_append_left (by rw [List.length_map, BM_len]; exact h), List.getElem?_map]
  cases BM[j]? with
  | none => rfl
  | some x => cases x <;> rfl
theorem lgB_big {B : Tb} {j : Nat} (h : B.length ≤ j) : lgB B j = false := by
  unfold lgB
  rw [List.getElem?_eq_none_iff.mpr h]
theorem WL {γ δ : St} {w : Int} (h1 : WB BS γ) (h2 : WB BM δ) : WB BL (cmb γ δ w) := fun j i hg => by
  unfold cmb
  by_cases a : j < 88
  · rw [if_pos a]; exact h1 j i (by rw [← lgL_S a]; exact hg)
  · rw [if_neg a]
    by_cases b : j < 147
    · rw [if_pos b]; exact h2 (j - 88) i (by rw [← lgL_M (by omega), show 88 + (j - 88) = j by omega]; exact hg)
    · rw [if_neg b]
      by_cases c : j = 147
      · subst c
        exact absurd hg (by
          have : lgB BL 147 = true := by
            unfold lgB BL
            rw [List.getElem?_append_right (by rw [BS_len]; omega), BS_len, List.getElem?_append_right (by rw [List.length_map, BM_len]; omega), List.length_map, BM_len]
            rfl
          rw [this]
          decide)
      · rw [if_neg c]
        by_cases d : (j - 148) % 2 = 0
        · rw [if_pos d]; exact h1 _ i (lgB_big (by rw [BS_len]; omega))
        · rw [if_neg d]; exact h2 _ i (lgB_big (by rw [BM_len]; omega))
theorem WL_S {γ δ : St} {w : Int} (h : WB BL (cmb γ δ w)) : WB BS γ := fun j i hg => by
  by_cases a : j < 88
  · have := h j i (by rw [lgL_S a]; exact hg)
    unfold cmb at this
    rwa [if_pos a] at this
  · have := h (148 + 2 * (j - 88)) i (lgB_big (by rw [BL_len]; omega))
    unfold cmb at this
    rw [if_neg (by omega), if_neg (by omega), if_neg (by omega), if_pos (by omega), show 88 + (148 + 2 * (j - 88) - 148) / 2 = j by omega] at this
    exact this
theorem WL_M {γ δ : St} {w : Int} (h : WB BL (cmb γ δ w)) : WB BM δ := fun j i hg => by
  by_cases a : j < 59
  · have := h (88 + j) i (by rw [lgL_M a]; exact hg)
    unfold cmb at this
    rw [if_neg (by omega), if_pos (by omega), Nat.add_sub_cancel_left] at this
    exact this
  · have := h (149 + 2 * (j - 59)) i (lgB_big (by rw [BL_len]; omega))
    unfold cmb at this
    rw [if_neg (by omega), if_neg (by omega), if_neg (by omega), if_neg (by omega), show 59 + (149 + 2 * (j - 59) - 148) / 2 = j by omega] at this
    exact this
section LR
variable {Γ : Ctx} {mt : MT} {R : Room} {ce sl : Nat} {ζ : Type} {K : Kd ζ} {pc : Nat} {lv lv' : List (Nat × Value)} {st : List Value} {γ δ : St} {w : Int} {o : Option ζ}
theorem sb_astore {i : Nat} {x : Nat} {B : Tb} {γ : St} (lv' : List (Nat × Value)) (d : decode mt.2.1 pc = .ok (.astore i, 2)) (hn : i < mt.2.2.1) (hl' : (i, Value.ref x) :: lv.filter (fun q => !(q.1 == i) && !(q.1 + 1 == i && q.2.category == 2)) = lv') (k : SB Γ B mt R ce sl K (pc + 2) lv' st γ o) : SB Γ B mt R ce sl K pc lv (.ref x :: st) γ o := fun z hz p e s m args below meth c H locs ls X hc hw hl hP hS => lv_astore X.x X.b d hl hn hl' (fun ls hl => k z hz p e s m args below meth c H locs ls X hc hw hl hP hS)
theorem sb_astore_n {q : Fin 4} {x : Nat} {B : Tb} {γ : St} (lv' : List (Nat × Value)) (d : decode mt.2.1 pc = .ok (.astore_n q, 1)) (hn : (q : Nat) < mt.2.2.1) (hl' : ((q : Nat), Value.ref x) :: lv.filter (fun r => !(r.1 == (q : Nat)) && !(r.1 + 1 == (q : Nat) && r.2.category == 2)) = lv') (k : SB Γ B mt R ce sl K (pc + 1) lv' st γ o) : SB Γ B mt R ce sl K pc lv (.ref x :: st) γ o := fun z hz p e s m args below meth c H locs ls X hc hw hl hP hS => lv_astore_n X.x X.b d rfl hl hn hl' (fun ls hl => k z hz p e s m args below meth c H locs ls X hc hw hl hP hS)
/-- the row for answers -/
theorem BL_o : BL[147]? = some (.inl (2, 1)) := by
  unfold BL
  rw [List.getElem?_append_right (by rw [BS_len]; omega), BS_len, List.getElem?_append_right (by rw [List.length_map, BM_len]; omega), List.length_map, BM_len]
  rfl
theorem cmb_o : cmb γ δ w 147 0 = w := by simp [cmb]
theorem cmb_set {v : Int} : setA (cmb γ δ w) 147 0 v = cmb γ δ v := by
  funext j i
  unfold setA cmb
  by_cases c : j = 147
  · subst c
    by_cases e : i = 0
    · subst e; simp
    · simp [e]
  · rw [if_neg (fun h => c h.1)]
    by_cases a : j < 88
    · rw [if_pos a, if_pos a]
    · rw [if_neg a, if_neg a]
      by_cases b : j < 147
      · rw [if_pos b, if_pos b]
      · rw [if_neg b, if_neg b, if_neg c, if_neg c]
theorem sl_ld (d : decode mt.2.1 pc = .ok (.laload, 1)) (k : SB Γ BL mt R ce sl K (pc + 1) lv (.long (iL w) :: st) (cmb γ δ w) o) : SB Γ BL mt R ce sl K pc lv (vI 0 :: vR Γ 147 :: st) (cmb γ δ w) o := by
  refine sb_eq (chk_t (c := inb 0 1) (inst := inferInstance) (by decide)).symm ?_
  refine sb_lald BL_o rfl (by decide) d (fun _ => ?_)
  rw [cmb_o]
  exact k
theorem sl_st {v : Int} (d : decode mt.2.1 pc = .ok (.lastore, 1)) (k : SB Γ BL mt R ce sl K (pc + 1) lv st (cmb γ δ v) o) : SB Γ BL mt R ce sl K pc lv (.long (iL v) :: vI 0 :: vR Γ 147 :: st) (cmb γ δ w) o := by
  refine sb_eq (chk_t (c := inb 0 1) (inst := inferInstance) (by decide)).symm ?_
  refine sb_last BL_o rfl (by decide) d (fun _ => ?_)
  rw [cmb_set]
  exact k
theorem vaL_call {GP : Ctx} {B : Tb} (hsub : ∀ q, adB GP B q → adB Γ BL q) {s : State} {H H1 : Heap} {locs L : List Loc} (hS : va_S (mA Γ BL s.heap.size) s.heap H locs) (hz : H.size ≤ H1.size) (hk : ∀ q : Nat, q < H.size → ¬ mA GP B H.size q → H1[q]? = H[q]?) (hL : ∀ z ∈ L, mA GP B H.size z.base) : va_S (mA Γ BL s.heap.size) s.heap H1 (locs ++ L) := by
  have fr : ∀ q, mA GP B H.size q → mA Γ BL s.heap.size q := fun q h => h.elim (fun a => Or.inl (hsub q a)) (fun z => Or.inr (Nat.le_trans hS.1 z))
  exact ⟨Nat.le_trans hS.1 hz, fun q h1 h2 => by rw [hk q (Nat.lt_of_lt_of_le h1 hS.1) (fun z => h2 (fr q z))]; exact hS.2.1 q h1 h2, fun q hq => by
      rcases List.mem_append.mp hq with h | h
      · exact hS.2.2 q h
      · exact fr _ (hL q h)⟩

theorem sl_VS {y : MethodName} {mu : MT} {fr lo n index : Nat} {As st0 : List Value} {o1 : Option (Int × St)} {k : Int → St → Option ζ} (F : VF y mu 0 n) (hC : NC Γ BS y mu fr lo (.ref (Γ.a 0) :: As) γ o1) (hm : Cond.methodLink mt.1 index y ∈ gG) (hn : As.length = n) (hst : st0 = As.reverse ++ vR Γ 0 :: st) (hW : (st.map fun v => v.category).sum ≤ 8) (hR : fr + 1 ≤ R.frames ∧ 8 + (mu.2.2.1 + 11) + lo ≤ R.locals) (d : decode mt.2.1 pc = .ok (.invokevirtual index, 3))
    (kk : ∀ r γ', rOK mu.2.2.2 r → SB Γ BL mt R ce sl K (pc + 3) lv (pR mu.2.2.2 r st) (cmb γ' δ w) (k r γ')) : SB Γ BL mt R ce sl K pc lv st0 (cmb γ δ w) (bndN o1 k) := fun z hz p e s m args below meth c H locs ls X hc hw hl hP hS => by
  obtain ⟨f1, f2, f3, f4, f5, T, N, f6⟩ := F
  obtain ⟨hPS, hPM, hPO⟩ := wL_split hP
  have hb0 := wB_at (Γ := Γ) (γ := γ) (B := BS) (j := 0) rfl
  have fr9 : ∀ q, mA Γ BS H.size q → mA Γ BL s.heap.size q := fun q h => h.elim (fun a => Or.inl (adS a)) (fun z => Or.inr (Nat.le_trans hS.1 z))
  cases ho : o1 with
  | none => rw [ho] at hz; cases hz
  | some z1 =>
    rw [ho] at hz
    have hM := hC z1 ho (WL_S hw) H.size
    have run := va_runV (p := p) (e := e) (R := R) (s := s) (m := m) (args := args) (below := below) (meth := meth) (c := c) (H := H) (locs := locs) (cells := ce) (slots := sl) (As := As) (rest := st) (g := F0 m pc ls st0) (b := Γ.a 0) (C := mu.1) ⟨X.x, X.b, X.ml, X.own, X.G⟩ hM (gcV n gG_good X.G hm f1 f2 f3 f4 rfl rfl f5 hR)
      ⟨mPre_blind, va_recv (q0 := 0) X.K hPS f6 hb0, fun U hU hW => ⟨rfl, by rw [hU], by rw [hU]; exact hPS, va_K.moved hW.alike X.K, apS X.ap, by rw [hU]; exact ((X.E.kept hS.2.1).narrow fr9).moved hW⟩⟩ rfl hn hl.1 hst (lv_room (m := m) (pc := pc) (ls := ls) (rest := st0) hW) d hc
    intro T0 hT0 XT
    obtain ⟨v, st₀, t, T', L, h0, X', hL, e1, e2, ⟨⟨hv, hok, hwb, hPz⟩, hz1, hk1⟩, go⟩ := run T0 hT0 XT
    cases hv
    rw [h0] at hz1 hk1
    rw [← e1] at hPz hz1 hk1
    have hX1 : ∀ q, adB (Γ.sh 88) BM q → T'.heap[q]? = H[q]? := fun q h => hk1 q (wB_lt hPM h) (fun z => z.elim (fun a => absurd h (nSM X.ap a)) (fun b => absurd (wB_lt hPM h) (Nat.not_lt.mpr b)))
    have hO1 : va_P Γ.D kl [oC Γ w] T'.heap := hPO.kept (fun k' q' hk' => by
      match k', hk' with
      | 0, hk' =>
        cases hk'
        have hlt : Γ.a 147 < H.size := (hPO 0 _ rfl).lt
        exact hk1 _ hlt (fun z => z.elim (nSO X.ap) (fun b => absurd hlt (Nat.not_lt.mpr b)))
      | k' + 1, hk' => simp at hk')
    obtain ⟨t2, a1, b1⟩ := kk z1.1 z1.2 hok z hz p e s m args below meth c T'.heap (locs ++ L) ls X hc (WL hwb (WL_M hw)) hl (wL_join hPz (wB_kept hPM hX1) hO1) (vaL_call (fun q a => adS a) hS hz1 hk1 hL) T' rfl X'
    exact ⟨t2, go t2 a1, b1⟩

theorem sl_VM {y : MethodName} {mu : MT} {fr lo n index : Nat} {As st0 : List Value} {o1 : Option (Int × St)} {k : Int → St → Option ζ} (F : VF y mu 12 n) (hC : NC (Γ.sh 88) BM y mu fr lo (.ref (Γ.a 88) :: As) δ o1) (hm : Cond.methodLink mt.1 index y ∈ gG) (hn : As.length = n) (hst : st0 = As.reverse ++ vR Γ 88 :: st) (hW : (st.map fun v => v.category).sum ≤ 8) (hR : fr + 1 ≤ R.frames ∧ 8 + (mu.2.2.1 + 11) + lo ≤ R.locals) (d : decode mt.2.1 pc = .ok (.invokevirtual index, 3))
    (kk : ∀ r δ', rOK mu.2.2.2 r → SB Γ BL mt R ce sl K (pc + 3) lv (pR mu.2.2.2 r st) (cmb γ δ' w) (k r δ')) : SB Γ BL mt R ce sl K pc lv st0 (cmb γ δ w) (bndN o1 k) := fun z hz p e s m args below meth c H locs ls X hc hw hl hP hS => by
  obtain ⟨f1, f2, f3, f4, f5, T, N, f6⟩ := F
  obtain ⟨hPS, hPM, hPO⟩ := wL_split hP
  have hb0 := wB_at (Γ := (Γ.sh 88)) (γ := δ) (B := BM) (j := 0) rfl
  have fr9 : ∀ q, mA (Γ.sh 88) BM H.size q → mA Γ BL s.heap.size q := fun q h => h.elim (fun a => Or.inl (adM a)) (fun z => Or.inr (Nat.le_trans hS.1 z))
  cases ho : o1 with
  | none => rw [ho] at hz; cases hz
  | some z1 =>
    rw [ho] at hz
    have hM := hC z1 ho (WL_M hw) H.size
    have run := va_runV (p := p) (e := e) (R := R) (s := s) (m := m) (args := args) (below := below) (meth := meth) (c := c) (H := H) (locs := locs) (cells := ce) (slots := sl) (As := As) (rest := st) (g := F0 m pc ls st0) (b := Γ.a 88) (C := mu.1) ⟨X.x, X.b, X.ml, X.own, X.G⟩ hM (gcV n gG_good X.G hm f1 f2 f3 f4 rfl rfl f5 hR)
      ⟨mPre_blind, va_recv (q0 := 0) X.K hPM f6 hb0, fun U hU hW => ⟨rfl, by rw [hU], by rw [hU]; exact hPM, va_K.moved hW.alike X.K, apM X.ap, by rw [hU]; exact ((X.E.kept hS.2.1).narrow fr9).moved hW⟩⟩ rfl hn hl.1 hst (lv_room (m := m) (pc := pc) (ls := ls) (rest := st0) hW) d hc
    intro T0 hT0 XT
    obtain ⟨v, st₀, t, T', L, h0, X', hL, e1, e2, ⟨⟨hv, hok, hwb, hPz⟩, hz1, hk1⟩, go⟩ := run T0 hT0 XT
    cases hv
    rw [h0] at hz1 hk1
    rw [← e1] at hPz hz1 hk1
    have hX1 : ∀ q, adB Γ BS q → T'.heap[q]? = H[q]? := fun q h => hk1 q (wB_lt hPS h) (fun z => z.elim (fun a => absurd a (nSM X.ap h)) (fun b => absurd (wB_lt hPS h) (Nat.not_lt.mpr b)))
    have hO1 : va_P Γ.D kl [oC Γ w] T'.heap := hPO.kept (fun k' q' hk' => by
      match k', hk' with
      | 0, hk' =>
        cases hk'
        have hlt : Γ.a 147 < H.size := (hPO 0 _ rfl).lt
        exact hk1 _ hlt (fun z => z.elim (nMO X.ap) (fun b => absurd hlt (Nat.not_lt.mpr b)))
      | k' + 1, hk' => simp at hk')
    obtain ⟨t2, a1, b1⟩ := kk z1.1 z1.2 hok z hz p e s m args below meth c T'.heap (locs ++ L) ls X hc (WL (WL_S hw) hwb) hl (wL_join (wB_kept hPS hX1) hPz hO1) (vaL_call (fun q a => adM a) hS hz1 hk1 hL) T' rfl X'
    exact ⟨t2, go t2 a1, b1⟩

end LR
