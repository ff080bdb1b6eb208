/-! the reference's run against what it means: the variables of an instant -/
/-- the order: causes first, every variable once -/
def OrR (D : St) : Prop := (∀ i, 0 ≤ i → i < D 0 51 → (0 ≤ D 48 i ∧ D 48 i < D 0 51) ∧ (∀ c, CsS D (D 48 i) c → ∃ j, 0 ≤ j ∧ j < i ∧ D 48 j = c) ∧ ∀ j, 0 ≤ j → j < i → D 48 j ≠ D 48 i) ∧ ∀ v, 0 ≤ v → v < D 0 51 → ∃ i, 0 ≤ i ∧ i < D 0 51 ∧ D 48 i = v
def HoI (D : St) (i v : Int) : Prop := ∃ j, 0 ≤ j ∧ j < i ∧ D 48 j = v
theorem ar_pc {δ : St} {call i : Int} {ms : List Int} (ch : Ch (δ 23) (δ 22 call) ms) (h0 : 0 ≤ i) (h1 : i < ms.length) : pc (f_M_argument δ call i) (fun z => z.2 = δ ∧ ms[i.toNat]? = some z.1) := by
  unfold f_M_argument
  refine pc_c (fun _ => pc_a (pc_m (arg_L10 FU ms (δ 22 call) 0 ch h0 (by omega)) (fun z hz => ⟨hz.1, ?_⟩)))
  have e := hz.2
  rw [show i - 0 = i by omega] at e
  exact e
section RI
variable {D : St} {u M I : Int → Int} {w : Int → Int → Int} {on : Int → Int → Prop} {τ : Int → Int → Int}
set_option maxHeartbeats 1000000 in
theorem in_L25 (R : RfS D u w on M τ) (O : OrR D) (hi : ∀ i, 0 ≤ i → i < D 5 (D 35 0) → u i = I i ∧ (tyV D i = 1 → Bl (I i))) {δ0 : St} (km0 : KM D δ0) (hM : ∀ k, δ0 52 k = M k) (hI : ∀ k, 0 ≤ k → k < D 5 (D 35 0) → δ0 50 k = I k) {x250 : St → Option (Int × St)} {Q : Int × St → Prop} (hx : ∀ δ', (∀ j k, j ≠ 51 → j ≠ 54 → j ≠ 55 → δ' j k = δ0 j k) → HdV D δ' u on (fun _ => True) → pc (x250 δ') Q) : ∀ (n : Nat) (δ : St) (i : Int), (∀ j k, j ≠ 51 → j ≠ 54 → j ≠ 55 → δ j k = δ0 j k) → HdV D δ u on (HoI D i) → (∀ v, 0 ≤ v → v < D 0 51 → ¬ HoI D i v → δ 55 v = 0) → 0 ≤ i → i ≤ D 0 51 → pc (f_M_instant_L25 x250 n δ i) Q := by
  have R' := R
  obtain ⟨l, ar, wk, vr, ⟨p0, p1, p2⟩, ty, mb⟩ := R
  have fu := FU_v
  have m50 := l.2.2.1
  have m0 := l.2.2.2.2.2.2.2.1
  intro n
  induction n with
  | zero => intro δ i _ _ _ _ _; exact pc_n
  | succ n ih =>
    intro δ i f hd hz i0 i1
    have km : KM D δ := fun j k q1 q2 q3 q4 => by rw [f j k (by omega) (by omega) (by omega)]; exact km0 j k q1 q2 q3 q4
    have fl := km.fL
    have rk := km.rk
    have e50 : δ 0 50 = D 0 50 := km 0 50 (by omega) (by omega) (by omega) (by omega)
    have e51 : δ 0 51 = D 0 51 := km 0 51 (by omega) (by omega) (by omega) (by omega)
    unfold f_M_instant_L25
    rw [e51]
    refine pc_i (fun q => hx δ f (fun v v0 v1 => ⟨(hd v v0 v1).1, fun _ => (hd v v0 v1).2 ?_⟩)) (fun q => ?_)
    · obtain ⟨j, j1, j2, j3⟩ := O.2 v v0 v1
      exact ⟨j, j1, by omega, j3⟩
    have oi := O.1 i i0 (by omega)
    have e48 : δ 48 i = D 48 i := km 48 i (by omega) (by omega) (by omega) (by omega)
    rw [e48]
    generalize hv : D 48 i = v at *
    obtain ⟨⟨v0, v1⟩, cs, nj⟩ := oi
    have hcs : ∀ c, CsS D v c → 0 ≤ c ∧ c < D 0 51 ∧ HoI D i c := fun c hc => by
      obtain ⟨j, j1, j2, j3⟩ := cs c hc
      have b := (O.1 j j1 (by omega)).1
      rw [j3] at b
      exact ⟨b.1, b.2, j, j1, j2, j3⟩
    have hcl : ∀ a c, 0 ≤ a → a < D 0 51 → HoI D i a → CsS D a c → HoI D i c := fun a c _ _ ha hc => by
      obtain ⟨j, j1, j2, j3⟩ := ha
      rw [← j3] at hc
      obtain ⟨t, t1, t2, t3⟩ := (O.1 j j1 (by omega)).2.1 c hc
      exact ⟨t, t1, by omega, t3⟩
    have nv0 : ¬ HoI D i v := fun ⟨j, j1, j2, j3⟩ => nj j j1 j2 j3
    have ho : ∀ y, HoI D (i + 1) y → HoI D i y ∨ y = v := fun y ⟨j, j1, j2, j3⟩ => by
      by_cases z : j = i
      · rw [z, hv] at j3; exact Or.inr j3.symm
      · exact Or.inl ⟨j, j1, by omega, j3⟩
    have ⟨i1', i2, i3, i4⟩ := l.2.2.2.2.2.2.2.2.2 v v0 v1
    have nd := l.nd i1'.1 i1'.2
    have sz := nd.sz
    have nv : nvN D (D 35 (D 42 v)) = D 4 (D 35 (D 42 v) + 1) - D 4 (D 35 (D 42 v)) := rfl
    have ck := nd.ck (v := D 4 (D 35 (D 42 v)) + D 43 v) (by omega) (by omega)
    have a := l.2.2.2.2.2.2.2.2.1 _ i1'.1 i1'.2
    have ov := onV_x (on := on) l i1'.1 i1'.2 i3 i4
    rw [i2] at ov
    have pr := pr_on2 R' km hd (m := FU) (x := D 42 v) (c := D 12 (D 4 (D 35 (D 42 v)) + D 43 v)) i1'.1 i1'.2 (by omega) ck (by
      rcases clV_b l FU (D 42 v) _ i1'.1 i1'.2 ck with z | z
      · exact Or.inl z
      · exact Or.inr (hcs _ (Or.inl ⟨rfl, z⟩)).2.2)
    rw [← ov.1] at pr
    have b244 : ∀ δ', (∀ j k, j ≠ 51 → j ≠ 54 → j ≠ 55 → δ' j k = δ0 j k) → HdV D δ' u on (HoI D (i + 1)) → (∀ y, 0 ≤ y → y < D 0 51 → ¬ HoI D (i + 1) y → δ' 55 y = 0) → pc (f_M_instant_b244 (f_M_instant_L25 x250 n) x250 δ' i) Q := fun δ' g1 g2 g3 => by
      unfold f_M_instant_b244
      exact pc_c (fun _ => ih δ' (i + 1) g1 g2 g3 (by omega) (by omega))
    have fin : ∀ (δ' : St) (val : Int), (∀ j k, j ≠ 54 → δ' j k = δ j k) → onV D on v → val = u v → (tyV D v = 1 → Bl (u v)) → pc (chk (inb v 6100) (ap (setA δ' 51 v val) fun γ35 => f_M_instant_b237 (f_M_instant_L25 x250 n) x250 γ35 i v)) Q := fun δ' val g1 g2 g3 g4 => by
      refine pc_c (fun _ => pc_a ?_)
      unfold f_M_instant_b237
      refine pc_c (fun _ => pc_a ?_)
      have s : ∀ j k, setA (setA δ' 51 v val) 55 v 1 j k = if j = 55 ∧ k = v then 1 else if j = 51 ∧ k = v then val else δ' j k := fun j k => by rw [stA, stA]
      generalize setA (setA δ' 51 v val) 55 v 1 = δ2 at *
      refine b244 δ2 (fun j k q1 q2 q3 => by rw [s, if_neg (by omega), if_neg (by omega), g1 j k q2]; exact f j k q1 q2 q3) (fun y y0 y1 => ?_) (fun y y0 y1 hn => ?_)
      · by_cases z : y = v
        · rw [z, s 55, s 51, if_pos ⟨rfl, rfl⟩, if_neg (by omega), if_pos ⟨rfl, rfl⟩]
          exact ⟨Or.inr rfl, fun _ => ⟨⟨fun _ => g2, fun _ => rfl⟩, fun _ => ⟨g3, g4⟩⟩⟩
        · rw [s 55, s 51, if_neg (by omega), if_neg (by omega), if_neg (by omega), if_neg (by omega), g1 55 y (by omega), g1 51 y (by omega)]
          exact ⟨(hd y y0 y1).1, fun h => (hd y y0 y1).2 ((ho y h).resolve_right z)⟩
      · have z : y ≠ v := fun z => hn ⟨i, i0, by omega, by rw [z]; exact hv⟩
        rw [s, if_neg (by omega), if_neg (by omega), g1 55 y (by omega)]
        exact hz y y0 y1 (fun ⟨j, j1, j2, j3⟩ => hn ⟨j, j1, by omega, j3⟩)
    refine pc_c (fun _ => pc_a (pc_c (fun _ => pc_a (pc_c (fun _ => pc_a (pc_c (fun _ => pc_a (pc_c (fun _ => pc_c (fun _ => pc_c (fun _ => ?_)))))))))))
    rw [rk 42 v (by omega) (by omega), rk 43 v (by omega) (by omega), rk 35 _ (by omega) (by omega), rk 4 _ (by omega) (by omega), rk 12 _ (by omega) (by omega), bndN_eq (present_eq (l.fl fl) i1'.1 (by omega) (by rw [rk 35 _ (by omega) (by omega), fl.nv]; exact ck))]
    refine pc_i (fun q6 => ?_) (fun q6 => ?_)
    · have onv := pr.1 q6
      rw [rk 4 _ (by omega) (by omega)]
      refine pc_c (fun _ => pc_c (fun _ => pc_c (fun _ => pc_a (pc_c (fun _ => ?_)))))
      rw [rk 5 _ (by omega) (by omega), rk 32 _ (by omega) (by omega)]
      refine pc_i (fun q7 => ?_) (fun q7 => ?_)
      · rw [rk 36 _ (by omega) (by omega)]
        refine pc_c (fun _ => pc_i (fun q8 => ?_) (fun q8 => ?_))
        · have x0 : 0 < D 42 v := by
            by_cases z : D 42 v = 0
            · rw [z, m0.2.1] at q8; omega
            · omega
          have ⟨o1, o2, o3, o4⟩ := a.2.2.1 x0
          have no := l.nd (x := D 36 (D 42 v)) (by omega) (by omega)
          have ixo := (l.2.2.2.2.2.2.2.2.1 (D 36 (D 42 v)) (by omega) (by omega)).1.1
          obtain ⟨ks, c1, c2, c3, c4, c5, c6, c7, c8⟩ := no.pt o2.1 o2.2
          have len := c8 o3
          rw [o4] at len
          rw [rk 37 _ (by omega) (by omega)]
          refine pc_c (fun _ => pc_c (fun _ => pc_b (ar_pc (ms := ks) (by rw [show δ 23 = D 23 from funext fun t => rk 23 t (by omega) (by omega), rk 22 _ (by omega) (by omega)]; exact c1) i3 (by omega)) (fun r δ1 hr => ?_)))
          obtain ⟨r1, r2⟩ := hr
          have r1 : δ1 = δ := r1
          have r2 : ks[(D 43 v).toNat]? = some r := r2
          rw [r1]
          have rt : RtV D v (D 36 (D 42 v)) r 0 := Or.inr ⟨q7, q8, rfl, rfl, ks, c1, r2⟩
          have at0 := rt.at l v0 v1
          obtain ⟨kc, kc1, kc2, kc3⟩ := no.at o2.1 o2.2
          have mr := c2.mem r (List.mem_of_getElem? r2)
          have gl := no.gl kc1.1 kc1.2 kc2 kc3
          have ao := ar _ ixo.1 ixo.2
          have fk := (fl_kid no ao.1 (ao.2 kc kc1.1 kc1.2) kc1.1 kc1.2 kc2 kc3 c1 (List.mem_of_getElem? r2)).1 (by omega) (by omega)
          have c0 := nd.c0 (v := D 4 (D 35 (D 42 v)) + D 43 v) (by omega) (by omega)
          have onr : on (D 36 (D 42 v)) (D 29 r) := by
            have z := ov.1.1 onv
            rw [c0, p1 _ x0 i1'.2] at z
            rw [fk]; exact z
          refine pc_b (po_pc R' km (fun k => by rw [f 52 k (by omega) (by omega) (by omega)]; exact hM k) hd v0 v1 rt (fun _ => rfl) kc1.1 kc1.2 (by omega) (by omega) hcs hcl onr) (fun r2' δ2 hz => ?_)
          obtain ⟨z1, z2, z3⟩ := hz
          have z2 : r2' = w (D 36 (D 42 v)) r := z2
          have uv := vr v _ r 0 v0 v1 rt
          have tyk := (ty _ kc ixo.1 ixo.2 kc1.1 kc1.2).1 (D 37 (D 42 v)) kc2 kc3
          obtain ⟨_, ms', d1, d2⟩ := tyk
          rw [Ch.uniq d1 c1] at d2
          have t3 := (d2.2.2.1 o3).2 _ r r2
          have tyr : τ kc r = tyV D v := by
            rw [t3, ov.2, o4, show ((D 43 v).toNat : Int) = D 43 v by omega]
          unfold f_M_instant_b236
          by_cases c3r : D 20 r = 3
          · rw [if_pos c3r] at uv
            have w3 := (wk _ r at0.1.1 at0.1.2 at0.2.1 at0.2.2).2.2.1 c3r
            refine fin δ2 r2' z1 onv (by rw [z2, w3, uv]) (fun z => ?_)
            rw [uv, ← w3]; exact z3 (by rw [tyr]; exact z)
          · rw [if_neg c3r] at uv
            refine fin δ2 r2' z1 onv (by rw [z2, uv]) (fun z => ?_)
            rw [uv]; exact z3 (by rw [tyr]; exact z)
        · have x0 : D 42 v = 0 := by
            by_cases z : D 42 v = 0
            · exact z
            · have := a.2.2.1 (by omega); have := this.1; omega
          have ev : D 43 v = v := by rw [x0, m0.2.2] at i2; omega
          unfold f_M_instant_b236
          refine pc_c (fun _ => ?_)
          rw [ev]
          rw [ev, x0] at q7
          have hh := hi v v0 q7
          refine fin δ _ (fun _ _ _ => rfl) onv ?_ (fun z => by rw [hh.1]; exact hh.2 z)
          rw [f 50 v (by omega) (by omega) (by omega), hI v v0 q7, hh.1]
      · have q7 : D 5 (D 35 (D 42 v)) ≤ D 43 v := by omega
        obtain ⟨k, t, b1, b2, b3, b4, b5⟩ := nd.db q7 i4
        have ixo := a.1.1
        have ao := ar _ ixo.1 ixo.2
        have fb := fl_body nd ao.1 (ao.2 k b1.1 b1.2) b1.1 b1.2 b2.1 b2.2
        rw [b3] at fb
        have eq := nd.eq b1.1 b1.2
        have onb : on (D 42 v) (D 29 (D 17 k)) := by rw [fb]; exact ov.1.1 onv
        have rt : RtV D v (D 42 v) (D 17 k) (D 33 (D 4 (D 35 (D 42 v)) + D 43 v)) := Or.inl ⟨q7, rfl, by rw [b4], rfl⟩
        have uv := vr v _ _ _ v0 v1 rt
        have tl := (ty _ k ixo.1 ixo.2 b1.1 b1.2).2 t b2.1 b2.2
        rw [b3, ← ov.2] at tl
        rw [b4, rk 17 _ (by omega) (by omega), rk 20 _ (by omega) (by omega)]
        refine pc_c (fun _ => pc_c (fun _ => pc_i (fun q8 => ?_) (fun q8 => ?_)))
        · rw [if_neg q8] at uv tl
          refine pc_c (fun _ => pc_b (po_pc R' km (fun k => by rw [f 52 k (by omega) (by omega) (by omega)]; exact hM k) hd v0 v1 rt (fun z => absurd z q8) b1.1 b1.2 eq.2.1 (Int.le_refl _) hcs hcl onb) (fun r δ2 hz => ?_))
          obtain ⟨z1, z2, z3⟩ := hz
          have z2 : r = w (D 42 v) (D 17 k) := z2
          unfold f_M_instant_b186
          exact fin δ2 r z1 onv (by rw [z2, uv]) (fun z => by rw [uv]; exact z3 (by rw [← tl]; exact z))
        · have q8 : D 20 (D 17 k) = 3 := by omega
          rw [if_pos q8] at uv tl
          rw [b5] at uv
          have six := eq.2.2.2.2.2.1 q8
          have er : psN D (D 35 (D 42 v)) ≤ D 17 k ∧ D 17 k < peN D (D 35 (D 42 v)) := by omega
          have oo := out_on R' i1'.1 i1'.2 er.1 er.2 q8 (o := t - D 16 k) (by omega) (by omega)
          have onO := oo.1.2 onb
          have hO : HoI D i (outV D (D 42 v) (D 17 k) (t - D 16 k)) := (hcs _ (Or.inr ⟨_, _, _, rt, Or.inr ⟨q8, by rw [b5]⟩⟩)).2.2
          have ho2 := ((hd _ oo.2.2.1 oo.2.2.2).2 hO).2 onO
          rw [rk 33 _ (by omega) (by omega), b5]
          have oe := output_eq (l.fl fl) (x := D 42 v) (e := D 17 k) (i := t - D 16 k) i1'.1 (by omega) (by rw [rk 35 _ (by omega) (by omega), fl.ps]; exact er.1) (by rw [rk 35 _ (by omega) (by omega), fl.pe]; exact er.2) (by rw [rk 20 _ (by omega) (by omega)]; exact q8) (by rw [rk 21 _ (by omega) (by omega), rk 6 _ (by omega) (by omega)]; omega)
          rw [fl.ou] at oe
          refine pc_c (fun _ => pc_c (fun _ => pc_c (fun _ => pc_c (fun _ => ?_))))
          rw [bndN_eq oe.1]
          refine pc_c (fun _ => ?_)
          unfold f_M_instant_b186
          refine fin δ _ (fun _ _ _ => rfl) onv (by rw [ho2.1, uv]) (fun z => ?_)
          rw [uv]; exact ho2.2 (by rw [oo.2.1, ← tl]; exact z)
    · have non : ¬ onV D on v := fun z => q6 (pr.2 z)
      refine b244 δ f (fun y y0 y1 => ⟨(hd y y0 y1).1, fun h => ?_⟩) (fun y y0 y1 hn => hz y y0 y1 (fun ⟨j, j1, j2, j3⟩ => hn ⟨j, j1, by omega, j3⟩))
      rcases ho y h with h | h
      · exact (hd y y0 y1).2 h
      · rw [h]
        refine ⟨⟨fun z => ?_, fun z => absurd z non⟩, fun z => absurd z non⟩
        have := hz v v0 v1 nv0
        omega
end RI
