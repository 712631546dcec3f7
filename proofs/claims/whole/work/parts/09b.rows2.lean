/-! more rows: fields written, cells made, arraycopy, Object.<init>, switches -/
section ROWS2
variable {p : Program} {l : Launch} {e : Env} {R : Room} {s : State} {mi : MethodId} {args : Array Value} {below : List Frame} {meth : Method} {c : Code} {Qf : State → Prop} {D : va_G} {A : Nat → Prop} {H0 : Heap} {Ts : List Jvm.Cond} {z : Nat} {fu : Bool} {sb : Option (Nat × Nat)} {g : Int → Int} {n0 : Nat} {ws0 : va_W}
variable {pc : Nat} {ls : jS} {st : List jV} {m : jM} {C : Nat → List jV → jM → (Int → jM → Prop) → Prop} {Q : Int → jM → Prop}
variable {H : Heap} {locs : List Loc} {cells slots : Nat} {ws : va_W} {tys : List (ClassId × FieldType)} {lsR : Array Slot} {stR : List Value}
theorem jNarR {ty : FieldType} (h : ty.isReference = true) (q : Nat) : narrow ty (.ref q) = .ref q ∧ fits ty (.ref q) = true := by
  cases ty <;> first | exact ⟨rfl, rfl⟩ | cases h
theorem jNarB {x : Int32} (h : x.toInt = 0 ∨ x.toInt = 1) : narrow .boolean (.int x) = .int x ∧ fits .boolean (.int x) = true := by
  have hx : x = 0 ∨ x = 1 := by
    rcases h with h | h
    · exact Or.inl (jn_eq.mpr (by rw [h]; decide))
    · exact Or.inr (jn_eq.mpr (by rw [h]; decide))
  rcases hx with rfl | rfl <;> exact ⟨rfl, rfl⟩
theorem jr_putfield (hc : jCx p R s mi args meth c A H0 Ts z fu sb g) {i f : Nat} (hl : Jvm.Cond.fieldLink (jRn (jCl z)) i (jTf f).1 (jTf f).2.1 (jTf f).2.2.1 ∈ jBW) (h12 : jFc f < 12) (hj : jFj f < jNf (jFc f)) (hf : jFf (jFc f) (jFj f) = f) (hown : (jFg f = 3 ∨ jFg f = 4) → jFc f = jCl z) (hd : decode (jBy z) pc = .ok (.putfield i, 3)) (h : jStp z C (jP p l e R s mi args below meth c Qf D A H0 z fu sb g n0 ws0) Q pc 3 ls m (jEff z (.putfield f) 3 pc ls st m)) : jP p l e R s mi args below meth c Qf D A H0 z fu sb g n0 ws0 pc ls st m := by
  obtain ⟨v, r, rfl, h0⟩ := jV1_inv h
  obtain ⟨ci, a, r, rfl, h1⟩ := jO1_inv h0
  unfold jPut at h1
  by_cases hci : ci = jFc f
  · subst hci
    rw [if_pos rfl] at h1
    intro H locs cells slots ws tys lsR stR hr
    obtain ⟨w, rR, rfl, hv, hr0⟩ := jRel_v hr
    obtain ⟨q, rR, rfl, ⟨hk, q', e1, hrf⟩, hr1⟩ := jRel_r hr0
    cases e1
    have hW := hr1.1.2.2.2.2
    obtain ⟨vs, k1, k2, k3⟩ := jWd_obj hW hrf (by rw [hk]; exact h12)
    obtain ⟨l1, l2, l3⟩ := jRf_lt hW hrf
    obtain ⟨o1, o2, o3, o4, o5, o6, o7, o8⟩ := jFld_ok h12 hj
    rw [hf] at o3 o4 o5 o6 o7 o8
    have hts : ∀ w ∈ u_ws (jRn (jFc f)) (jTc (jFc f)) (jNf (jFc f)), w ∈ Ts := fun w hw => hc.2.2.2.2.2.1 _ (jLay_in h12 w hw)
    have hlk := hc.2.2.2.2.1 _ (hc.2.2.2.2.2.1 _ hl)
    have hw : ∀ b : Int, jFv fu ws a f b w → jWd fu (ws.set a.toNat (q, .inr (jKd a, vs.set (jFj f) w))) tys (jUp m a (jFj f) b) := by
      intro b hb
      have := jWd_put (k := a.toNat) (j := jFj f) (b := b) (v := w) hW (by rw [l3]; exact k1) (by rw [l3, hk]; exact h12) (by rw [l3]; exact k2) (by rw [l3]; exact k3) (by rw [l3, hk]; exact hj) (by rw [l3, hk, hf]; exact hb)
      rw [l3] at this
      exact this
    have go : ∀ b : Int, jFv fu ws a f b w → narrow (jTy (jFc f) (jFj f)) w = w → fits (jTy (jFc f) (jFj f)) w = true → (jTc (jFc f) (jFj f)).2.2.2 = false → jP p l e R s mi args below meth c Qf D A H0 z fu sb g n0 ws0 (pc + 3) ls r (jUp m a (jFj f) b) → W p l e R s mi args below meth c H locs cells slots Qf (F0 mi pc lsR (w :: .ref q :: rR)) := by
      intro b hb hn hfit hfin hX
      have hw1 := hw b hb
      rw [hk] at k1 k2 hw1
      exact va_put (own := jRn (jCl z)) (ref := (jTf f).1) (C := jRn (jFc f)) (T := jTc (jFc f)) (N := jNf (jFc f)) (ci := jFc f) (ws := ws) hc.1 hc.2.1 hc.2.2.2.2.1 hts (jTy (jFc f)) (jTy_ok _ h12) (jNm_ok _ h12) hc.2.2.2.1 hr1.1.2.2.1 hr1.1.1 hr1.1.2.1 hr1.1.2.2.2.1 a.toNat k1 (jVc_at h12) (jFj f) hj hlk (fun _ hx => hx) hfin (jTy_ok _ h12 _ hj) hn hfit (by rw [k2]; exact hj) hd (fun H1 locs1 hP hD hS => hX _ _ _ _ _ _ _ _ (jRel_set hr1 k1 hP hD hS hw1 (fun j => jUp_ne (by omega)) (jUp_ne (by omega))))
    have goF : ∀ b : Int, jMd z = 1 → (jFg f = 3 ∨ jFg f = 4) → jFv fu ws a f b w → (∃ u, w = .ref u) → jP p l e R s mi args below meth c Qf D A H0 z fu sb g n0 ws0 (pc + 3) ls r (jUp m a (jFj f) b) → W p l e R s mi args below meth c H locs cells slots Qf (F0 mi pc lsR (w :: .ref q :: rR)) := by
      intro b hmd hg hb hu hX
      have hw1 := hw b hb
      rw [hk] at k1 k2 hw1
      obtain ⟨u, rfl⟩ := hu
      obtain ⟨p1, p2, p3⟩ := o8 (by omega)
      obtain ⟨n1, n2⟩ := jNarR p1 u
      have hcl := hown hg
      have hinit : meth.name = "<init>" := by
        rcases (hc.2.2.2.2.2.2.2.2.2.2.2.1 hmd).2 with z1 | z1
        · exact z1
        · omega
      exact va_putF (own := jRn (jCl z)) (ref := (jTf f).1) (C := jRn (jFc f)) (T := jTc (jFc f)) (N := jNf (jFc f)) (ci := jFc f) (ws := ws) hc.1 hc.2.1 hc.2.2.2.2.1 hts (jTy (jFc f)) (jTy_ok _ h12) (jNm_ok _ h12) hc.2.2.2.1 hr1.1.2.2.1 hr1.1.1 hr1.1.2.1 hr1.1.2.2.2.1 a.toNat k1 (jVc_at h12) (jFj f) hj hlk (fun _ hx => hx) p2 hinit (by rw [← hcl]; exact p3) (jTy_ok _ h12 _ hj) n1 n2 (by rw [k2]; exact hj) hd (fun H1 locs1 hP hD hS => hX _ _ _ _ _ _ _ _ (jRel_set hr1 k1 hP hD hS hw1 (fun j => jUp_ne (by omega)) (jUp_ne (by omega))))
    split at h1
    · obtain ⟨x, rfl, rfl⟩ := hv
      obtain ⟨p1, p2⟩ := o4 ‹_›
      exact go _ (Or.inl ⟨Or.inl ‹_›, x, rfl, rfl⟩) (by rw [p1]; rfl) (by rw [p1]; rfl) p2 h1
    · obtain ⟨x, rfl, rfl⟩ := hv
      obtain ⟨p1, p2⟩ := o5 ‹_›
      exact go _ (Or.inr (Or.inl ⟨‹_›, x, rfl, rfl⟩)) (by rw [p1]; rfl) (by rw [p1]; rfl) p2 h1
    · obtain ⟨x, rfl, rfl⟩ := hv
      obtain ⟨p1, p2⟩ := o6 ‹_›
      split at h1
      · obtain ⟨n1, n2⟩ := jNarB ‹_›
        exact go _ (Or.inl ⟨Or.inr ‹_›, x, rfl, rfl⟩) (by rw [p1]; exact n1) (by rw [p1]; exact n2) p2 h1
      · exact h1.elim
    · obtain ⟨hkt, u, rfl, hru⟩ := hv
      split at h1
      · exact goF _ (‹_ ∧ _›).1 (Or.inl ‹_›) (Or.inr (Or.inr (Or.inl ⟨Or.inl ‹_›, Or.inr ⟨h1.1, u, rfl, hru⟩⟩))) ⟨u, rfl⟩ h1.2
      · exact h1.elim
    · split at h1
      · rename_i hg _ _ _ hcond
        rcases hv with ⟨h4, hkt, hn, u, rfl, hru⟩ | ⟨h4, b, L, hs, hn, ha, rfl⟩
        · exact goF _ hcond.1 (Or.inr ‹_›) (Or.inr (Or.inr (Or.inl ⟨Or.inr ‹_›, Or.inr ⟨h1.1, u, rfl, hru⟩⟩))) ⟨u, rfl⟩ h1.2
        · exfalso
          have h0 := hrf.1
          have := h1.1
          omega
      · exact h1.elim
    · obtain ⟨hkt, u, rfl, hru⟩ := hv
      split at h1
      · obtain ⟨p1, p2⟩ := o7 ‹_›
        obtain ⟨n1, n2⟩ := jNarR p1 u
        refine go _ (Or.inr (Or.inr (Or.inr ⟨‹_›, Or.inr ⟨?_, u, rfl, hru⟩⟩))) n1 n2 p2 h1
        exact hkt.trans (‹_ ∧ _›).2
      · exact h1.elim
    · exact h1.elim
  · rw [if_neg hci] at h1
    exact h1.elim
theorem jFold {α : Type} {X : Nat → α → Prop} {x : α} {l : List (Prop × Nat)} (h : l.foldr (fun q r => (q.1 → X q.2 x) ∧ r) True) {q : Prop × Nat} (hq : q ∈ l) (h1 : q.1) : X q.2 x := by
  induction l with
  | nil => cases hq
  | cons a l ih =>
    rcases List.mem_cons.mp hq with rfl | hq
    · exact h.1 h1
    · exact ih h.2 hq
theorem jFold2 {X : Nat → jS → List jV → jM → Prop} {ls : jS} {st : List jV} {m : jM} {l : List (Prop × Nat)} (h : l.foldr (fun q r => (q.1 → X q.2 ls st m) ∧ r) True) {c : Prop} {t : Nat} (hq : (c, t) ∈ l) (h1 : c) : X t ls st m := by
  induction l with
  | nil => cases hq
  | cons a l ih =>
    rcases List.mem_cons.mp hq with rfl | hq
    · exact h.1 h1
    · exact ih h.2 hq
theorem jr_tableswitch (hc : jCx p R s mi args meth c A H0 Ts z fu sb g) {d0 lo hi : Int} {os : Array Int} {n : Nat} (ho : 0 ≤ jTo pc d0 ∧ os.toList.all (fun o => decide (0 ≤ jTo pc o)) = true) (hd : decode (jBy z) pc = .ok (.tableswitch d0 lo hi os, n)) (h : jStp z C (jP p l e R s mi args below meth c Qf D A H0 z fu sb g n0 ws0) Q pc n ls m (jEff z (.tableswitch (jTo pc d0) lo hi (os.map (jTo pc))) n pc ls st m)) : jP p l e R s mi args below meth c Qf D A H0 z fu sb g n0 ws0 pc ls st m := by
  obtain ⟨a, r, rfl, h1⟩ := jI1_inv h
  obtain ⟨hsz, h2⟩ := jIf_inv h1
  intro H locs cells slots ws tys lsR stR hr
  obtain ⟨x, rR, rfl, rfl, hr1⟩ := jRel_i hr
  by_cases hx : x.toInt < lo ∨ hi < x.toInt
  · refine lv_tableOut hc.1 hc.2.1 hd (tgt := (jTo pc d0).toNat) hx (by have := ho.1; unfold jTo at this ⊢; omega) ?_
    exact (jFold2 (X := jP p l e R s mi args below meth c Qf D A H0 z fu sb g n0 ws0) h2 (c := x.toInt < lo ∨ hi < x.toInt) (t := (jTo pc d0).toNat) (List.mem_append_right _ (List.mem_cons_self)) hx) _ _ _ _ _ _ _ _ hr1
  · have hlo : ¬ x.toInt < lo := fun q => hx (Or.inl q)
    have hhi : ¬ hi < x.toInt := fun q => hx (Or.inr q)
    have hsz' : os.size = (hi + 1 - lo).toNat := by simpa using hsz
    have hlt : (x.toInt - lo).toNat < os.size := by omega
    have hget : os[(x.toInt - lo).toNat]? = some os[(x.toInt - lo).toNat] := Array.getElem?_eq_getElem hlt
    have hpos := List.all_eq_true.mp ho.2 os[(x.toInt - lo).toNat] (by simp)
    have hpos := of_decide_eq_true hpos
    refine lv_tableIn hc.1 hc.2.1 hd hlo hhi hget (tgt := (jTo pc os[(x.toInt - lo).toNat]).toNat) (by unfold jTo at hpos ⊢; omega) ?_
    refine (jFold2 (X := jP p l e R s mi args below meth c Qf D A H0 z fu sb g n0 ws0) h2 (c := x.toInt = lo + (((x.toInt - lo).toNat : Nat) : Int)) (t := (jTo pc os[(x.toInt - lo).toNat]).toNat) (List.mem_append_left _ ?_) (by omega)) _ _ _ _ _ _ _ _ hr1
    refine List.mem_map.mpr ⟨(jTo pc os[(x.toInt - lo).toNat], (x.toInt - lo).toNat), ?_, rfl⟩
    refine List.mem_zipIdx_iff_getElem?.mpr ?_
    simp [hlt]
theorem jOff {l : List (Int × Int)} {d k : Int} : (∃ q ∈ l, k = q.1 ∧ Op.lookupswitch.offset l d k = q.2) ∨ ((∀ q ∈ l, k ≠ q.1) ∧ Op.lookupswitch.offset l d k = d) := by
  induction l with
  | nil => exact Or.inr ⟨fun q hq => absurd hq List.not_mem_nil, rfl⟩
  | cons a l ih =>
    obtain ⟨a1, a2⟩ := a
    rw [Op.lookupswitch.offset_cons]
    by_cases h : a1 = k
    · rw [if_pos h]
      exact Or.inl ⟨(a1, a2), List.mem_cons_self, h.symm, rfl⟩
    · rw [if_neg h]
      rcases ih with ⟨q, h1, h2, h3⟩ | ⟨h1, h2⟩
      · exact Or.inl ⟨q, List.mem_cons_of_mem _ h1, h2, h3⟩
      · refine Or.inr ⟨fun q hq => ?_, h2⟩
        rcases List.mem_cons.mp hq with rfl | hq
        · exact fun z => h z.symm
        · exact h1 q hq
theorem jr_lookupswitch (hc : jCx p R s mi args meth c A H0 Ts z fu sb g) {d0 : Int} {ps : Array (Int × Int)} {n : Nat} (hp : (ps.toList.zip (ps.toList.drop 1)).all (fun (a, next) => a.1 < next.1) = true) (ho : 0 ≤ jTo pc d0 ∧ ps.toList.all (fun q => decide (0 ≤ jTo pc q.2)) = true) (hd : decode (jBy z) pc = .ok (.lookupswitch d0 ps, n)) (h : jStp z C (jP p l e R s mi args below meth c Qf D A H0 z fu sb g n0 ws0) Q pc n ls m (jEff z (.lookupswitch (jTo pc d0) (ps.map (fun q => (q.1, jTo pc q.2)))) n pc ls st m)) : jP p l e R s mi args below meth c Qf D A H0 z fu sb g n0 ws0 pc ls st m := by
  obtain ⟨a, r, rfl, h1⟩ := jI1_inv h
  intro H locs cells slots ws tys lsR stR hr
  obtain ⟨x, rR, rfl, rfl, hr1⟩ := jRel_i hr
  rcases @jOff ps.toList d0 x.toInt with ⟨q, q1, q2, q3⟩ | ⟨q1, q2⟩
  · have hpos := of_decide_eq_true (List.all_eq_true.mp ho.2 q q1)
    refine lv_lookup hc.1 hc.2.1 hd hp q3 (tgt := (jTo pc q.2).toNat) (by unfold jTo at hpos ⊢; omega) ?_
    refine (jFold2 (X := jP p l e R s mi args below meth c Qf D A H0 z fu sb g n0 ws0) h1 (c := x.toInt = q.1) (t := (jTo pc q.2).toNat) (List.mem_append_left _ ?_) q2) _ _ _ _ _ _ _ _ hr1
    refine List.mem_map.mpr ⟨(q.1, jTo pc q.2), ?_, rfl⟩
    rw [Array.toList_map]
    exact List.mem_map.mpr ⟨q, q1, rfl⟩
  · refine lv_lookup hc.1 hc.2.1 hd hp q2 (tgt := (jTo pc d0).toNat) (by have := ho.1; unfold jTo at this ⊢; omega) ?_
    refine (jFold2 (X := jP p l e R s mi args below meth c Qf D A H0 z fu sb g n0 ws0) h1 (t := (jTo pc d0).toNat) (List.mem_append_right _ (List.mem_cons_self)) ?_) _ _ _ _ _ _ _ _ hr1
    intro q hq
    rw [Array.toList_map] at hq
    obtain ⟨q', hq', rfl⟩ := List.mem_map.mp hq
    exact q1 q' hq'
/-- the world with a cell more -/
theorem jNw_ne {m : jM} {k i : Int} (h : k ≠ m (-3) 0) (h2 : ¬ (k = -3 ∧ i = 0)) : jNw m k i = m k i := by
  unfold jNw
  rw [if_neg h, if_neg h2]
theorem jRel_new (hmd : jMd z = 1) (hfu : fu = false) (h : jRel R s D A H0 z fu sb g n0 ws0 H locs cells slots ws tys lsR stR ls st m) (hlim : m (-3) 0 < m (-2) (-7)) {q : Nat} {e1 : va_E} {tl : List (ClassId × FieldType)} {H1 : Heap} (hK : va_K D jVc (tys ++ tl) s) (hP : va_P D jVc (ws ++ [(q, e1)]) H1) (hD : va_D A (ws ++ [(q, e1)])) (hS : va_S A H0 H1 locs) (he : jEn fu (ws ++ [(q, e1)]) (tys ++ tl) ws.length (jNw m) e1) :
    cells + 1 ≤ R.cells ∧ slots + (jLn ws.length).toNat ≤ R.slots ∧ jRel R s D A H0 z fu sb g n0 ws0 H1 locs (cells + 1) (slots + (jLn ws.length).toNat) (ws ++ [(q, e1)]) (tys ++ tl) lsR stR ls st (jNw m) ∧ jRf (ws ++ [(q, e1)]) (m (-3) 0) q := by
  obtain ⟨⟨g1, g2, g3, g4, g5⟩, g6, g7, g8, g9, g10⟩ := h
  obtain ⟨w1, w2, w3, w4⟩ := g5
  obtain ⟨b1, b2, b3, b4⟩ := g9
  obtain ⟨b5, b6, b7, b8, b9⟩ := b3 hmd
  have hx : jEx ws (ws ++ [(q, e1)]) := jEx_app ws _
  have hlen : (ws ++ [(q, e1)]).length = ws.length + 1 := by simp
  have hmono : ∀ a b : Nat, a ≤ b → jOf a ≤ jOf b := by
    intro a b hab
    induction hab with
    | refl => exact Nat.le_refl _
    | step _ ih => exact Nat.le_trans ih (Nat.le_add_right _ _)
  have ho : jOf (ws.length + 1) = jOf ws.length + (jLn ws.length).toNat := rfl
  have hle := hmono (ws.length + 1) (n0 + jMc z) (by omega)
  refine ⟨by omega, by omega, ⟨⟨hP, hD, hK, hS, ?_⟩, jLr_ex hx g6, jSr_ex hx g7, fun j => ?_, ?_, jEx_tr g10 hx⟩, ?_⟩
  · refine ⟨?_, by rw [hlen]; omega, fun z => (by rw [hfu] at z; cases z), fun k a e hk => ?_⟩
    · unfold jNw
      rw [if_neg (by omega), if_pos ⟨rfl, rfl⟩, w1, hlen]
      omega
    · by_cases hkl : k < ws.length
      · rw [List.getElem?_append_left hkl] at hk
        exact jEn_same hx (fun i q h => by rw [List.getElem?_append_left (List.getElem?_eq_some_iff.mp h).1]; exact h) (fun j => jNw_ne (by omega) (by omega)) (w4 k a e hk)
      · rw [List.getElem?_append_right (by omega)] at hk
        have hk0 : k - ws.length = 0 := by
          have := (List.getElem?_eq_some_iff.mp hk).1
          simp at this
          omega
        rw [hk0] at hk
        cases hk
        have : k = ws.length := by omega
        subst this
        exact he
  · rw [jNw_ne (by omega) (by omega)]
    exact g8 j
  · refine ⟨by rw [hlen]; omega, by rw [hlen, ho]; omega, fun _ => ⟨?_, b6, b7, b8, by rw [hlen]; omega⟩, fun q => absurd hmd q⟩
    rw [jNw_ne (by omega) (by omega)]
    exact b5
  · refine ⟨by omega, e1, ?_⟩
    rw [w1]
    simp
theorem jDv {ty : FieldType} (h : ty.isReference = true) : defaultValue ty = .null := by
  cases ty <;> first | rfl | cases h
theorem jDf_all : (List.range 160).all (fun k => decide (jKd k < 12 → (List.range (jNf (jKd k))).all (fun j => decide (jDf k j = if jFg (jFf (jKd k) j) < 3 then 0 else -1)) = true) && decide (¬ jKd k < 12 → jDf k 0 = if jKd k = 22 ∨ jKd k = 23 then -1 else 0)) = true := by decide +kernel
theorem jDf_ok {k ci j : Nat} (h12 : ci < 12) (hj : j < jNf ci) (hk : jKd k = ci) (h161 : k < 160) : (jFg (jFf ci j) < 3 → jDf k j = 0) ∧ (3 ≤ jFg (jFf ci j) → jDf k j = -1) := by
  have h1 := List.all_eq_true.mp jDf_all k (List.mem_range.mpr h161)
  simp only [Bool.and_eq_true, decide_eq_true_eq] at h1
  have h2 := h1.1 (by omega)
  rw [hk] at h2
  have h3 := of_decide_eq_true (List.all_eq_true.mp h2 j (List.mem_range.mpr hj))
  refine ⟨fun q => ?_, fun q => ?_⟩
  · rw [h3, if_pos q]
  · rw [h3, if_neg (by omega)]
theorem jr_new (hc : jCx p R s mi args meth c A H0 Ts z fu sb g) {i ci : Nat} (h12 : ci < 12) (hl : Jvm.Cond.classLink (jRn (jCl z)) i (jRn ci) ∈ jBW) (hi1 : Jvm.Cond.instantiable (jRn ci) (jNf ci) ∈ jBW) (hi2 : Jvm.Cond.initialized (jRn ci) ∈ jBW) (hd : decode (jBy z) pc = .ok (.new i, 3)) (h : jStp z C (jP p l e R s mi args below meth c Qf D A H0 z fu sb g n0 ws0) Q pc 3 ls m (jEff z (.new ci) 3 pc ls st m)) : jP p l e R s mi args below meth c Qf D A H0 z fu sb g n0 ws0 pc ls st m := by
  obtain ⟨hmd, h1⟩ := jIf_inv h
  obtain ⟨⟨hlim, hkd⟩, hX⟩ := h1
  intro H locs cells slots ws tys lsR stR hr
  have hfu := (hc.2.2.2.2.2.2.2.2.2.2.2.1 hmd).1
  have hW := hr.1.2.2.2.2
  have hlen := hW.1
  obtain ⟨b1, b2, b3, b4⟩ := hr.2.2.2.2.1
  obtain ⟨b5, b6, b7, b8, b9⟩ := b3 hmd
  have h161 : ws.length < 160 := by omega
  obtain ⟨d1, d2, d3, d4⟩ := jKd_ok h161
  rw [hlen] at hkd
  have hN : (jLn ws.length).toNat = jNf ci := by rw [d3 (by rw [hkd]; exact h12), hkd]
  have hBW := fun w hw => hc.2.2.2.2.1 w (hc.2.2.2.2.2.1 w hw)
  let fs : List Value := (List.range (jNf ci)).map (fun j => defaultValue (jTy ci j))
  have hmono : ∀ a b : Nat, a ≤ b → jOf a ≤ jOf b := by
    intro a b hab
    induction hab with
    | refl => exact Nat.le_refl _
    | step _ ih => exact Nat.le_trans ih (Nat.le_add_right _ _)
  have ho : jOf (ws.length + 1) = jOf ws.length + (jLn ws.length).toNat := rfl
  have hle := hmono (ws.length + 1) (n0 + jMc z) (by omega)
  refine va_new (own := jRn (jCl z)) (C := jRn ci) (T := jTc ci) (N := jNf ci) (ci := ci) (fs := fs) hc.1 hc.2.1 hc.2.2.2.2.1 (fun w hw => hc.2.2.2.2.2.1 _ (jLay_in h12 w hw)) (jTy ci) (jTy_ok ci h12) hc.2.2.2.1 (hBW _ hl) (hBW _ hi1) (hBW _ hi2) hr.1.2.2.1 hr.1.1 hr.1.2.1 hr.1.2.2.2.1 hc.2.2.2.2.2.2.2.2.1 (jVc_at h12) (fun j hj => by simp [fs, vp_V, hj]) (by omega) (by omega) hd (fun q H1 hP hD hS => ?_)
  have he : jEn fu (ws ++ [(q, .inr (ci, fs))]) (tys ++ []) ws.length (jNw m) (.inr (ci, fs)) := by
    refine Or.inl ⟨by rw [hkd]; exact h12, fs, by rw [hkd], by simp [fs, hkd], fun j hj => ?_⟩
    rw [hkd] at hj
    refine ⟨defaultValue (jTy ci j), by simp [fs, hj], ?_⟩
    rw [hkd]
    obtain ⟨o1, o2, o3, o4, o5, o6, o7, o8⟩ := jFld_ok h12 hj
    have hv : jNw m (ws.length : Nat) j = jDf (ws.length : Nat) j := by
      unfold jNw
      rw [if_pos hlen.symm]
    rw [hv]
    have hdf := jDf_ok h12 hj hkd h161
    have ho3 : jFg (jFf ci j) = 0 ∨ jFg (jFf ci j) = 1 ∨ jFg (jFf ci j) = 2 ∨ jFg (jFf ci j) = 3 ∨ jFg (jFf ci j) = 4 ∨ jFg (jFf ci j) = 5 := by omega
    rcases ho3 with o | o | o | o | o | o
    · exact Or.inl ⟨Or.inl o, 0, by rw [(o4 o).1]; rfl, hdf.1 (by omega)⟩
    · exact Or.inr (Or.inl ⟨o, 0, by rw [(o5 o).1]; rfl, hdf.1 (by omega)⟩)
    · exact Or.inl ⟨Or.inr o, 0, by rw [(o6 o).1]; rfl, hdf.1 (by omega)⟩
    · exact Or.inr (Or.inr (Or.inl ⟨Or.inl o, Or.inl ⟨hfu, hdf.2 (by omega), jDv (o8 (by omega)).1⟩⟩))
    · exact Or.inr (Or.inr (Or.inl ⟨Or.inr o, Or.inl ⟨hfu, hdf.2 (by omega), jDv (o8 (by omega)).1⟩⟩))
    · exact Or.inr (Or.inr (Or.inr ⟨o, Or.inl ⟨hfu, hdf.2 (by omega), jDv (o7 o).1⟩⟩))
  obtain ⟨r1, r2, r3, r4⟩ := jRel_new hmd hfu hr hlim (tl := []) (by rw [List.append_nil]; exact hr.1.2.2.1) hP hD hS he
  rw [hN] at r3
  exact hX _ _ _ _ _ _ _ _ (jRel_pv r3 ⟨by rw [hlen]; exact hkd, q, rfl, r4⟩)
end ROWS2
