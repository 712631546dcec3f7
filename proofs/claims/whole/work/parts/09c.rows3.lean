/-! more rows: arrays made, arraycopy, Object.<init> -/
section ROWS3
variable {p : Program} {l : Launch} {e : Env} {R : Room} {s : State} {mi : MethodId} {args : Array Value} {below : List Frame} {meth : Method} {c : Code} {Qf : State → Prop} {D : va_G} {A : Nat → Prop} {H0 : Heap} {Ts : List Jvm.Cond} {z : Nat} {fu : Bool} {sb : Option (Nat × Nat)} {g : Int → Int} {n0 : Nat} {ws0 : va_W}
variable {pc : Nat} {ls : jS} {st : List jV} {m : jM} {C : Nat → List jV → jM → (Int → jM → Prop) → Prop} {Q : Int → jM → Prop}
variable {H : Heap} {locs : List Loc} {cells slots : Nat} {ws : va_W} {tys : List (ClassId × FieldType)} {lsR : Array Slot} {stR : List Value}
theorem jRfs_lt : ∀ q ∈ jRfs, q.1 < 12 := by decide +kernel
theorem jDf_0 {k i : Int} (h : jKd k = 20 ∨ jKd k = 21) : jDf k i = 0 := by
  unfold jDf
  rw [if_neg]
  rintro (h1 | h1 | h1)
  · omega
  · omega
  · have := jRfs_lt _ h1
    dsimp only at this
    omega
theorem jDf_1 {k i : Int} (h : jKd k = 22 ∨ jKd k = 23) : jDf k i = -1 := by
  unfold jDf
  rw [if_pos]
  rcases h with h | h
  · exact Or.inl h
  · exact Or.inr (Or.inl h)
/-- room for a cell more -/
theorem jRoom1 (hmd : jMd z = 1) (h : jRel R s D A H0 z fu sb g n0 ws0 H locs cells slots ws tys lsR stR ls st m) (hlim : m (-3) 0 < m (-2) (-7)) : ws.length < 160 ∧ cells + 1 ≤ R.cells ∧ slots + (jLn ws.length).toNat ≤ R.slots := by
  have hlen := h.1.2.2.2.2.1
  obtain ⟨b1, b2, b3, b4⟩ := h.2.2.2.2.1
  obtain ⟨b5, b6, b7, b8, b9⟩ := b3 hmd
  have hmono : ∀ a b : Nat, a ≤ b → jOf a ≤ jOf b := by
    intro a b hab
    induction hab with
    | refl => exact Nat.le_refl _
    | step _ ih => exact Nat.le_trans ih (Nat.le_add_right _ _)
  have ho : jOf (ws.length + 1) = jOf ws.length + (jLn ws.length).toNat := rfl
  have hle := hmono (ws.length + 1) (n0 + jMc z) (by omega)
  exact ⟨by omega, by omega, by omega⟩
theorem jLn_x {x : Int32} {k : Nat} (hk : k < 160) (h : jLn k = x.toInt) : ¬ x < 0 ∧ x.toNatClampNeg = (jLn k).toNat ∧ (jLn k).toNat ≤ 20000 := by
  obtain ⟨d1, d2, d3, d4⟩ := jKd_ok hk
  have hc : x.toNatClampNeg = x.toInt.toNat := rfl
  refine ⟨fun q => ?_, by omega, by omega⟩
  have := jn_lt.mp q
  rw [jn_0] at this
  omega
theorem jr_newarrayI (hc : jCx p R s mi args meth c A H0 Ts z fu sb g) (hd : decode (jBy z) pc = .ok (.newarray .int, 2)) (h : jStp z C (jP p l e R s mi args below meth c Qf D A H0 z fu sb g n0 ws0) Q pc 2 ls m (jEff z (.newarray .int) 2 pc ls st m)) (hw : Jvm.Cond.arrayClass .int ∈ jBW) : jP p l e R s mi args below meth c Qf D A H0 z fu sb g n0 ws0 pc ls st m := by
  obtain ⟨n, r, rfl, h1⟩ := jI1_inv h
  obtain ⟨hmd, h2⟩ := jIf_inv h1
  obtain ⟨⟨hlim, hkd, hln⟩, hX⟩ := h2
  intro H locs cells slots ws tys lsR stR hr
  obtain ⟨x, rR, rfl, rfl, hr1⟩ := jRel_i hr
  have hfu := (hc.2.2.2.2.2.2.2.2.2.2.2.1 hmd).1
  have hlen := hr1.1.2.2.2.2.1
  rw [hlen] at hkd hln
  obtain ⟨q1, q2, q3⟩ := jRoom1 hmd hr1 hlim
  obtain ⟨x1, x2, x3⟩ := jLn_x q1 hln
  refine va_newa (atype := .int) (ty := .int) (N' := (jLn ws.length).toNat) (a0 := ((jLn ws.length).toNat, .inl (fun _ => 0))) hc.1 hc.2.1 (hc.2.2.2.2.1 _ (hc.2.2.2.2.2.1 _ hw)) rfl hr1.1.2.2.1 hr1.1.1 hr1.1.2.1 hr1.1.2.2.2.1 hc.2.2.2.2.2.2.2.2.1 (fun _ => rfl) x1 x2 (Nat.le_trans (Nat.mul_le_mul_right _ x3) (Nat.le_of_ble_eq_true rfl)) q2 q3 hd (fun q cA H1 hK hP hD hS => ?_)
  have he : jEn fu (ws ++ [(q, .inl (cA, (jLn ws.length).toNat, .inl (fun _ => 0)))]) (tys ++ [(cA, .int)]) ws.length (jNw m) (.inl (cA, (jLn ws.length).toNat, .inl (fun _ => 0))) := by
    refine Or.inr (Or.inl ⟨hkd, cA, fun _ => 0, tys.length, rfl, by simp, fun j hj => ?_⟩)
    unfold jNw
    rw [if_pos hlen.symm, jDf_0 (Or.inl hkd)]
    show (0 : Int) = (0 : Int32).toInt
    decide
  obtain ⟨-, -, r3, r4⟩ := jRel_new hmd hfu hr1 hlim hK hP hD hS he
  exact hX _ _ _ _ _ _ _ _ (jRel_pv r3 (Or.inl ⟨by omega, by rw [hlen]; exact hkd, by rw [hlen]; exact hln, q, rfl, r4⟩))
theorem jr_newarrayL (hc : jCx p R s mi args meth c A H0 Ts z fu sb g) (hd : decode (jBy z) pc = .ok (.newarray .long, 2)) (h : jStp z C (jP p l e R s mi args below meth c Qf D A H0 z fu sb g n0 ws0) Q pc 2 ls m (jEff z (.newarray .long) 2 pc ls st m)) (hw : Jvm.Cond.arrayClass .long ∈ jBW) : jP p l e R s mi args below meth c Qf D A H0 z fu sb g n0 ws0 pc ls st m := by
  obtain ⟨n, r, rfl, h1⟩ := jI1_inv h
  obtain ⟨hmd, h2⟩ := jIf_inv h1
  obtain ⟨⟨hlim, hkd, hln⟩, hX⟩ := h2
  intro H locs cells slots ws tys lsR stR hr
  obtain ⟨x, rR, rfl, rfl, hr1⟩ := jRel_i hr
  have hfu := (hc.2.2.2.2.2.2.2.2.2.2.2.1 hmd).1
  have hlen := hr1.1.2.2.2.2.1
  rw [hlen] at hkd hln
  obtain ⟨q1, q2, q3⟩ := jRoom1 hmd hr1 hlim
  obtain ⟨x1, x2, x3⟩ := jLn_x q1 hln
  refine va_newa (atype := .long) (ty := .long) (N' := (jLn ws.length).toNat) (a0 := ((jLn ws.length).toNat, .inr (.inl (fun _ => 0)))) hc.1 hc.2.1 (hc.2.2.2.2.1 _ (hc.2.2.2.2.2.1 _ hw)) rfl hr1.1.2.2.1 hr1.1.1 hr1.1.2.1 hr1.1.2.2.2.1 hc.2.2.2.2.2.2.2.2.1 (fun _ => rfl) x1 x2 (Nat.le_trans (Nat.mul_le_mul_right _ x3) (Nat.le_of_ble_eq_true rfl)) q2 q3 hd (fun q cA H1 hK hP hD hS => ?_)
  have he : jEn fu (ws ++ [(q, .inl (cA, (jLn ws.length).toNat, .inr (.inl (fun _ => 0))))]) (tys ++ [(cA, .long)]) ws.length (jNw m) (.inl (cA, (jLn ws.length).toNat, .inr (.inl (fun _ => 0)))) := by
    refine Or.inr (Or.inr (Or.inl ⟨hkd, cA, fun _ => 0, tys.length, rfl, by simp, fun j hj => ?_⟩))
    unfold jNw
    rw [if_pos hlen.symm, jDf_0 (Or.inr hkd)]
    show (0 : Int) = (0 : Int64).toInt
    decide
  obtain ⟨-, -, r3, r4⟩ := jRel_new hmd hfu hr1 hlim hK hP hD hS he
  exact hX _ _ _ _ _ _ _ _ (jRel_pv r3 (Or.inl ⟨by omega, by rw [hlen]; exact hkd, by rw [hlen]; exact hln, q, rfl, r4⟩))
theorem jr_anewarray (hc : jCx p R s mi args meth c A H0 Ts z fu sb g) {i t : Nat} (ht0 : t = 2 ∨ t = 3) (hl : Jvm.Cond.classLink (jRn (jCl z)) i (jRn (t + 4)) ∈ jBW) (hd : decode (jBy z) pc = .ok (.anewarray i, 3)) (h : jStp z C (jP p l e R s mi args below meth c Qf D A H0 z fu sb g n0 ws0) Q pc 3 ls m (jEff z (.anewarray t) 3 pc ls st m)) : jP p l e R s mi args below meth c Qf D A H0 z fu sb g n0 ws0 pc ls st m := by
  obtain ⟨n, r, rfl, h1⟩ := jI1_inv h
  obtain ⟨⟨hmd, ht⟩, h2⟩ := jIf_inv h1
  obtain ⟨⟨hlim, hkd, hln⟩, hX⟩ := h2
  intro H locs cells slots ws tys lsR stR hr
  obtain ⟨x, rR, rfl, rfl, hr1⟩ := jRel_i hr
  have hfu := (hc.2.2.2.2.2.2.2.2.2.2.2.1 hmd).1
  have hlen := hr1.1.2.2.2.2.1
  rw [hlen] at hkd hln
  obtain ⟨q1, q2, q3⟩ := jRoom1 hmd hr1 hlim
  obtain ⟨x1, x2, x3⟩ := jLn_x q1 hln
  have hao : va_AO (jRn (t + 4)) s := by
    rcases ht0 with rfl | rfl
    · exact hc.2.2.2.2.2.2.2.1.1
    · exact hc.2.2.2.2.2.2.2.1.2
  refine va_newq (own := jRn (jCl z)) (C := jRn (t + 4)) (N' := (jLn ws.length).toNat) hc.1 hc.2.1 hc.2.2.2.1 (hc.2.2.2.2.1 _ (hc.2.2.2.2.2.1 _ hl)) hao hr1.1.2.2.1 hr1.1.1 hr1.1.2.1 hr1.1.2.2.2.1 hc.2.2.2.2.2.2.2.2.1 x1 x2 (Nat.le_trans (Nat.mul_le_mul_right _ x3) (Nat.le_of_ble_eq_true rfl)) q2 q3 hd (fun q cA H1 hK hP hD hS => ?_)
  have he : jEn fu (ws ++ [(q, .inl (cA, (jLn ws.length).toNat, .inr (.inr (.inr (.inr (fun _ => none))))))]) (tys ++ [(cA, .object (jRn (t + 4)))]) ws.length (jNw m) (.inl (cA, (jLn ws.length).toNat, .inr (.inr (.inr (.inr (fun _ => none)))))) := by
    refine Or.inr (Or.inr (Or.inr ⟨by omega, cA, fun _ => none, tys.length, rfl, ?_, fun j hj => Or.inl ⟨hfu, ?_, rfl⟩⟩))
    · rw [hkd, show 20 + t - 16 = t + 4 by omega]
      simp
    · unfold jNw
      rw [if_pos hlen.symm, jDf_1 (by omega)]
  obtain ⟨-, -, r3, r4⟩ := jRel_new hmd hfu hr1 hlim hK hP hD hS he
  exact hX _ _ _ _ _ _ _ _ (jRel_pv r3 (Or.inl ⟨by omega, by rw [hlen]; exact hkd, by rw [hlen]; exact hln, q, rfl, r4⟩))
theorem jr_pop (hc : jCx p R s mi args meth c A H0 Ts z fu sb g) {i : Nat} (hl : Jvm.Cond.methodLink (jRn (jCl z)) i Jvm.Lib.objectInit ∈ jBW) (h1w : Jvm.Cond.instanceMethod Jvm.Lib.objectInit ∈ jBW) (h2w : Jvm.Cond.code Jvm.Lib.objectInit ⟨#[0xb1]⟩ 1 none ∈ jBW) (hd : decode (jBy z) pc = .ok (.invokespecial i, 3)) (h : jStp z C (jP p l e R s mi args below meth c Qf D A H0 z fu sb g n0 ws0) Q pc 3 ls m (jEff z .pop 3 pc ls st m)) : jP p l e R s mi args below meth c Qf D A H0 z fu sb g n0 ws0 pc ls st m := by
  obtain ⟨ci, a, r, rfl, h1⟩ := jO1_inv h
  obtain ⟨hcat, h2⟩ := jIf_inv h1
  intro H locs cells slots ws tys lsR stR hr
  obtain ⟨q, rR, rfl, hv, hr1⟩ := jRel_r hr
  have hBW := fun w hw => hc.2.2.2.2.1 w (hc.2.2.2.2.2.1 w hw)
  have hcs := jSr_cats hr1.2.2.1
  obtain ⟨lv, hlv, -⟩ := hr1.2.1.2
  refine W.objInit (own := jRn (jCl z)) hc.1 hc.2.1 hc.2.2.2.1 (hBW _ hl) (hBW _ h1w) (hBW _ h2w) (g := F0 mi pc lsR (.ref q :: rR)) rfl (by rw [hc.2.2.1]; exact hlv.1) rfl hd hc.2.2.2.2.2.2.2.2.2.1.1 ?_ (h2 _ _ _ _ _ _ _ _ hr1)
  have := hc.2.2.2.2.2.2.2.2.2.1.2
  show 2 * 0 + _ + 12 ≤ _
  omega
theorem jWd_cpi {a0 a1 : Int} {sp dp n : Nat} {q1 : Nat} {c1 : ClassId} {n1 t1 : Nat} {f gg : Nat → Int32} (h : jWd fu ws tys m) (h0 : 0 ≤ a1) (hk : ws[a1.toNat]? = some (q1, .inl (c1, n1, .inl gg))) (hd : jKd a1 = 20) (ht : tys[t1]? = some (c1, .int)) (hn : n1 = (jLn a1).toNat) (hg : ∀ j : Nat, j < n1 → m a1 j = (gg j).toInt) (hf : ∀ j : Nat, j < n → m a0 (sp + j : Nat) = (f (sp + j)).toInt) :
    jWd fu (ws.set a1.toNat (q1, .inl (c1, n1, .inl (va_cpy f gg sp dp n)))) tys (jCp m a0 sp a1 dp n) := by
  have l3 : (a1.toNat : Int) = a1 := by omega
  refine jWd_set h hk (fun q j hq => ?_) (Or.inr (Or.inl ⟨by rw [l3]; exact hd, c1, _, t1, by rw [l3, hn], ht, fun j hj => ?_⟩))
  · unfold jCp
    rw [if_neg (fun z => hq (by omega))]
  · rw [l3] at hj ⊢
    unfold jCp va_cpy
    by_cases hin : dp ≤ j ∧ j < dp + n
    · rw [if_pos ⟨rfl, by omega, by omega⟩, if_pos hin]
      have := hf (j - dp) (by omega)
      rw [← this]
      congr 1
      omega
    · rw [if_neg (fun z => hin (by omega)), if_neg hin]
      exact hg j (by omega)
theorem jWd_cpl {a0 a1 : Int} {sp dp n : Nat} {q1 : Nat} {c1 : ClassId} {n1 t1 : Nat} {f gg : Nat → Int64} (h : jWd fu ws tys m) (h0 : 0 ≤ a1) (hk : ws[a1.toNat]? = some (q1, .inl (c1, n1, .inr (.inl gg)))) (hd : jKd a1 = 21) (ht : tys[t1]? = some (c1, .long)) (hn : n1 = (jLn a1).toNat) (hg : ∀ j : Nat, j < n1 → m a1 j = (gg j).toInt) (hf : ∀ j : Nat, j < n → m a0 (sp + j : Nat) = (f (sp + j)).toInt) :
    jWd fu (ws.set a1.toNat (q1, .inl (c1, n1, .inr (.inl (va_cpy f gg sp dp n))))) tys (jCp m a0 sp a1 dp n) := by
  have l3 : (a1.toNat : Int) = a1 := by omega
  refine jWd_set h hk (fun q j hq => ?_) (Or.inr (Or.inr (Or.inl ⟨by rw [l3]; exact hd, c1, _, t1, by rw [l3, hn], ht, fun j hj => ?_⟩)))
  · unfold jCp
    rw [if_neg (fun z => hq (by omega))]
  · rw [l3] at hj ⊢
    unfold jCp va_cpy
    by_cases hin : dp ≤ j ∧ j < dp + n
    · rw [if_pos ⟨rfl, by omega, by omega⟩, if_pos hin]
      have := hf (j - dp) (by omega)
      rw [← this]
      congr 1
      omega
    · rw [if_neg (fun z => hin (by omega)), if_neg hin]
      exact hg j (by omega)
theorem jr_swap (hc : jCx p R s mi args meth c A H0 Ts z fu sb g) {i : Nat} (hl : Jvm.Cond.methodLink (jRn (jCl z)) i arraycopyName ∈ jBW) (h1w : Jvm.Cond.native arraycopyName ∈ jBW) (h2w : Jvm.Cond.static arraycopyName ∈ jBW) (h3w : Jvm.Cond.initialized "java/lang/System" ∈ jBW) (hd : decode (jBy z) pc = .ok (.invokestatic i, 3)) (h : jStp z C (jP p l e R s mi args below meth c Qf D A H0 z fu sb g n0 ws0) Q pc 3 ls m (jEff z .swap 3 pc ls st m)) : jP p l e R s mi args below meth c Qf D A H0 z fu sb g n0 ws0 pc ls st m := by
  obtain ⟨n, r, rfl, h1⟩ := jI1_inv h
  obtain ⟨dp, r, rfl, h2⟩ := jI1_inv h1
  obtain ⟨t1, n1, a1, r, rfl, h3⟩ := jY1_inv h2
  obtain ⟨sp, r, rfl, h4⟩ := jI1_inv h3
  obtain ⟨t0, n00, a0, r, rfl, h5⟩ := jY1_inv h4
  obtain ⟨⟨ht, ht1, hcat⟩, h6⟩ := jIf_inv h5
  obtain ⟨⟨c1, c2, c3, c4, c5⟩, hX⟩ := h6
  subst ht
  intro H locs cells slots ws tys lsR stR hr
  obtain ⟨xn, rR, rfl, rfl, hr1⟩ := jRel_i hr
  obtain ⟨xd, rR, rfl, rfl, hr2⟩ := jRel_i hr1
  obtain ⟨q1, rR, rfl, hv1, hr3⟩ := jRel_r hr2
  obtain ⟨xs, rR, rfl, rfl, hr4⟩ := jRel_i hr3
  obtain ⟨q0, rR, rfl, hv0, hr5⟩ := jRel_r hr4
  have hW := hr5.1.2.2.2.2
  have hBW := fun w hw => hc.2.2.2.2.1 w (hc.2.2.2.2.2.1 w hw)
  have hcs := jSr_cats hr5.2.2.1
  obtain ⟨lv, hlv, -⟩ := hr5.2.1.2
  have hsz : c.maxLocals = lsR.size := by rw [hc.2.2.1]; exact hlv.1.symm
  have e1 := jn_cl c1
  have e2 := jn_cl c2
  have e3 := jn_cl c3
  have n1' : ¬ xs < 0 := fun q => by have := jn_lt.mp q; rw [jn_0] at this; omega
  have n2' : ¬ xd < 0 := fun q => by have := jn_lt.mp q; rw [jn_0] at this; omega
  have n3' : ¬ xn < 0 := fun q => by have := jn_lt.mp q; rw [jn_0] at this; omega
  have hroom := hc.2.2.2.2.2.2.2.2.2.1
  have hnf : nativeFrameWords "java/lang/System" "arraycopy" 5 = 7 := by decide
  rcases hv1 with ⟨k1, k2, k3, u1, w1, rf1⟩ | ⟨k1, -⟩
  · cases w1
    rcases hv0 with ⟨o1, o2, o3, u0, w0, rf0⟩ | ⟨o1, -⟩
    · cases w0
      rcases ht1 with rfl | rfl
      · obtain ⟨cB, f1, tB, m1, m2, m3⟩ := jWd_int hW rf1 k2
        obtain ⟨cA, f0, tA, m4, m5, m6⟩ := jWd_int hW rf0 o2
        refine va_copyi (own := jRn (jCl z)) (f := f0) (g := f1) (ty := .int) hc.1 hc.2.1 hsz hc.2.2.2.1 (hBW _ hl) (hBW _ h1w) (hBW _ h2w) (hBW _ h3w) hr5.1.2.2.1 hr5.1.1 hr5.1.2.1 hr5.1.2.2.2.1 a0.toNat a1.toNat tA tB m4 m1 m5 m2 rfl n1' n2' n3' (by rw [o3]; omega) (by rw [k3]; omega) (fun _ _ => rfl) hroom.1 (by rw [hnf]; omega) hd (fun H1 locs1 hP hD hS => ?_)
        have hw := jWd_cpi (a0 := a0) (sp := xs.toNatClampNeg) (dp := xd.toNatClampNeg) (n := xn.toNatClampNeg) (f := f0) hW rf1.1 m1 k2 m2 rfl m3 (fun j hj => m6 _ (by rw [o3]; omega))
        rw [e1, e2, e3] at hw
        refine hX _ _ _ _ _ _ _ _ (jRel_set hr5 m1 hP hD hS hw (fun j => ?_) ?_)
        · unfold jCp
          rw [if_neg (fun zz => by have := rf1.1; omega)]
        · unfold jCp
          rw [if_neg (fun zz => by have := rf1.1; omega)]
      · obtain ⟨cB, f1, tB, m1, m2, m3⟩ := jWd_lng hW rf1 k2
        obtain ⟨cA, f0, tA, m4, m5, m6⟩ := jWd_lng hW rf0 o2
        refine va_copyl (own := jRn (jCl z)) (f := f0) (g := f1) (ty := .long) hc.1 hc.2.1 hsz hc.2.2.2.1 (hBW _ hl) (hBW _ h1w) (hBW _ h2w) (hBW _ h3w) hr5.1.2.2.1 hr5.1.1 hr5.1.2.1 hr5.1.2.2.2.1 a0.toNat a1.toNat tA tB m4 m1 m5 m2 rfl n1' n2' n3' (by rw [o3]; omega) (by rw [k3]; omega) (fun _ _ => rfl) hroom.1 (by rw [hnf]; omega) hd (fun H1 locs1 hP hD hS => ?_)
        have hw := jWd_cpl (a0 := a0) (sp := xs.toNatClampNeg) (dp := xd.toNatClampNeg) (n := xn.toNatClampNeg) (f := f0) hW rf1.1 m1 k2 m2 rfl m3 (fun j hj => m6 _ (by rw [o3]; omega))
        rw [e1, e2, e3] at hw
        refine hX _ _ _ _ _ _ _ _ (jRel_set hr5 m1 hP hD hS hw (fun j => ?_) ?_)
        · unfold jCp
          rw [if_neg (fun zz => by have := rf1.1; omega)]
        · unfold jCp
          rw [if_neg (fun zz => by have := rf1.1; omega)]
    · omega
  · omega
end ROWS3
