/-! every method keeps its contract -/
theorem jMet_of {l : Launch} {y : MethodName} {ws ws' : List Jvm.Cond} {rm : Room} {Pc : Array Value → State → Prop} {Qc : Array Value → State → Outcome → State → Prop} {mc ms : Nat} {free : Addr → Prop} {cc : ByteArray} {maxL : Nat} {ret : Option FieldType}
    (hy : plainFor y = true) (hw : ws = Jvm.Cond.code y cc maxL ret :: ws')
    (body : ∀ p e s m args below meth c s₁, BodyLoose p l y (headSpec ws rm) cc maxL ret e s m args below meth c s₁ → c.maxLocals = maxL → Pc args s →
      W p l e (headSpec ws rm).room s m args below meth c s.heap [] 0 0 (MQ below Qc args s mc ms free) (entryFrame m args maxL)) : Met l y ws rm Pc Qc mc ms free := by
  refine MetFree.of_bodySF (code := cc) (maxLocals := maxL) (ret := ret) hy ?_ ?_
  · intro args s m h hn
    obtain ⟨meth, c, h1, h2, h3, h4, h5, h6, -, -⟩ := Cond.code_spec hn (atoms_spec (ws := ws) h _ (by rw [hw]; exact List.mem_cons_self))
    exact ⟨meth, c, h1, h2, h3, h4, h5, h6⟩
  · intro p e s m args below meth c s₁ B hml hP _
    have hh0 : s₁.heap = s.heap := by rw [B.state]; rfl
    obtain ⟨t, a1, o, b1, b2, b3⟩ := body p e s m args below meth c s₁ B hml hP s₁ hh0 (Stand.of_body B)
    exact ⟨t, o, a1, b1, b2, ⟨b3.1, b3.2⟩⟩
theorem jLay_args {ws : va_W} {sb : Option (Nat × Nat)} : ∀ {a : List jV} {b : List Value}, jSr ws sb a b → ∀ k : Nat, (lg_sl b).length = (jLay a).length ∧ ∀ (i : Nat) (v : jV), (jLay a)[i]? = some (some v) → ∃ w, (k + i, w) ∈ lv_args k b ∧ jVr ws sb v w
  | [], [], _, k => ⟨rfl, fun i v h => by simp [jLay] at h⟩
  | v0 :: a, w0 :: b, h, k => by
    have hc := jVr_cat h.1
    by_cases h2 : jCat v0 = 2
    · obtain ⟨x, rfl⟩ : ∃ x, v0 = .inr (.inl x) := by
        match v0, h2 with
        | .inr (.inl x), _ => exact ⟨x, rfl⟩
      obtain ⟨g1, g2⟩ := jLay_args h.2 (k + 2)
      have hw2 : w0.category = 2 := hc
      refine ⟨?_, fun i v hi => ?_⟩
      · simp only [lg_sl, List.flatMap_cons, hw2, if_true, List.length_append, List.length_cons, List.length_nil, jLay]
        unfold lg_sl at g1
        omega
      · simp only [lv_args, hw2, if_true]
        match i, hi with
        | 0, hi =>
          simp [jLay] at hi
          subst hi
          exact ⟨w0, List.mem_cons_self, h.1⟩
        | 1, hi => simp [jLay] at hi
        | i + 2, hi =>
          obtain ⟨w, q1, q2⟩ := g2 i v (by simpa [jLay] using hi)
          exact ⟨w, List.mem_cons_of_mem _ (by rw [show k + (i + 2) = k + 2 + i by omega]; exact q1), q2⟩
    · obtain ⟨g1, g2⟩ := jLay_args h.2 (k + 1)
      have hw2 : ¬ w0.category = 2 := by rw [hc]; exact h2
      have hl : jLay (v0 :: a) = some v0 :: jLay a := by
        match v0, h2 with
        | .inl _, _ => rfl
        | .inr (.inl _), h2 => exact absurd rfl h2
        | .inr (.inr _), _ => rfl
      refine ⟨?_, fun i v hi => ?_⟩
      · rw [hl]
        simp only [lg_sl, List.flatMap_cons, hw2, if_false, List.length_append, List.length_cons, List.length_nil]
        unfold lg_sl at g1
        omega
      · rw [hl] at hi
        simp only [lv_args, hw2, if_false]
        match i, hi with
        | 0, hi =>
          simp at hi
          subst hi
          exact ⟨w0, List.mem_cons_self, h.1⟩
        | i + 1, hi =>
          obtain ⟨w, q1, q2⟩ := g2 i v (by simpa using hi)
          exact ⟨w, List.mem_cons_of_mem _ (by rw [show k + (i + 1) = k + 1 + i by omega]; exact q1), q2⟩
theorem jEnt_lr {ws : va_W} {sb : Option (Nat × Nat)} {z : Nat} {a : List jV} {b : List Value} (h : jSr ws sb a b) (hl : (jLay a).length ≤ jMx z) : jLr ws sb (jMx z) (jEnt z a) ((lg_sl b ++ List.replicate (jMx z - (lg_sl b).length) Slot.unset).toArray) := by
  obtain ⟨g1, g2⟩ := jLay_args h 0
  refine ⟨?_, lv_args 0 b, lv_entry b (by omega), fun i v hi => ?_⟩
  · unfold jEnt
    rw [List.length_append, List.length_replicate]
    omega
  · unfold jEnt at hi
    by_cases hlt : i < (jLay a).length
    · rw [List.getElem?_append_left hlt] at hi
      obtain ⟨w, q1, q2⟩ := g2 i v hi
      exact ⟨w, by rw [Nat.zero_add] at q1; exact q1, q2⟩
    · rw [List.getElem?_append_right (by omega), List.getElem?_replicate] at hi
      split at hi <;> cases hi
theorem jNar_z {x : Int32} (h : x.toInt = 0 ∨ x.toInt = 1) : narrow .boolean (.int x) = .int x := (jNarB h).1
theorem jMw_k1 : jMw.all (fun q => decide (jMd q.1 = 1 → jKi q.1 = 2)) = true := by decide +kernel
theorem jMd1_k2 {y : Nat} (hy : y ∈ jZs) (hl : y ≠ zL_law) (hk : jMd y = 1) : jKi y = 2 := by
  obtain ⟨q, hq, rfl⟩ := jMw_of hy hl
  exact of_decide_eq_true (List.all_eq_true.mp jMw_k1 q hq) hk
theorem jKi2_rt {y : Nat} (hy : y ∈ jZs) (hl : y ≠ zL_law) (hk : jKi y = 2) : jRt y = 0 := by
  obtain ⟨q, hq, rfl⟩ := jMw_of hy hl
  exact of_decide_eq_true (List.all_eq_true.mp jMw_k2 q hq) hk
set_option maxHeartbeats 4000000 in
theorem jSound1 (l : Launch) (d : Nat) (ih : ∀ e0, d = e0 + 1 → ∀ y a m K, y ∈ jZs → y ≠ zL_law → jK e0 y a m K → jGood l e0 y a m K) {y : Nat} {aargs : List jV} {m : jM} {K : Int → jM → Prop} (hy : y ∈ jZs) (hyl : y ≠ zL_law) (hk : jK d y aargs m K) : jGood l d y aargs m K := by
  intro D fu ws tys Args sz g f1 f2 f3 f4 f5 f6
  obtain ⟨w1, w2, w3, w4, w5, w6, w7, w8, w9, w10, d1, d2, d3, d4, d5, d6, d7, d8⟩ := jMw_ok hy hyl
  refine jMet_of (cc := jBy y) (maxL := jMx y) (ret := jRy y) w10 rfl ?_
  intro p e s mi args below meth c s₁ B hml hv
  obtain ⟨rfl, hsz, hP, hK, hD0, hKO⟩ := hv
  have hx := B.exec
  have hb := B.bytes
  have hr := B.returns
  have hts : ∀ w ∈ jWs y, w.before Args.toArray s = true := atoms_spec (ws := jWs y) B.pre
  have hown : s.vm.findClass (jYn y).cls = some mi.cls := findClass_of_methodNamed B.named
  have hnm : meth.name = (jYn y).name := (name_of_methodNamed B.named B.method).1
  have hlocks : meth.locks = false := B.notSynchronized
  have hA : ∀ q, s.heap.size ≤ q → va_A ws sz q := fun q h => Or.inr (by rw [← hsz]; exact h)
  have hnone : jSx s (va_A ws sz) s.heap none g := fun b L h => by cases h
  have hn0 : jMd y = 1 → ws.length + jMc y ≤ 160 := fun h => (f2 h).2.2
  have hm := @jOf_mono ws.length (ws.length + jMc y) (Nat.le_add_right _ _)
  have hc : jCx p (headSpec (jWs y) (jRm d y ws.length)).room s mi Args.toArray meth c (va_A ws sz) s.heap (jWs y) y fu none g := by
    refine ⟨hx, hb, hml, by rw [← w6]; exact hown, hts, fun w h => List.mem_cons_of_mem _ h, hKO.1, hKO.2, hA, ⟨?_, ?_⟩, f1, fun h => ⟨(f2 h).1, Or.inl ?_⟩, hnone⟩
    · show 1 ≤ d + 1
      omega
    · show 60 ≤ 60 * (d + 1)
      omega
    · rw [hnm]
      exact w9 (jMd1_k2 hy hyl h)
  have fin : ∀ {H : Heap} {locs : List Loc} {cells slots : Nat} {ws' : va_W} {tys' : List (ClassId × FieldType)} {lsR : Array Slot} {ls : jS} {m' : jM} {v : Int} {oc : Outcome}, jRel (headSpec (jWs y) (jRm d y ws.length)).room s D (va_A ws sz) s.heap y fu none g ws.length ws H locs cells slots ws' tys' lsR [] ls [] m' → jRet y v m' K → jOc (jRt y) v oc →
      (∀ t : State, t.heap = H → s.WarmedH t.vm → jQc D fu ws sz g y K Args.toArray s oc t) ∧ (∀ q ∈ locs, va_A ws sz q.base) ∧ cells = jMc y ∧ slots = jOf (ws.length + jMc y) - jOf ws.length ∧ (jRt y = 3 → v = 0 ∨ v = 1) := by
    intro H locs cells slots ws' tys' lsR ls m' v oc hrel hret hoc
    obtain ⟨⟨r1, r2, r3, r4, r5⟩, -, -, r8, ⟨b1, b2, b3, b4⟩, r10⟩ := hrel
    have hKv : K v m' ∧ (jRt y = 3 → v = 0 ∨ v = 1) ∧ ws'.length = ws.length + jMc y := by
      unfold jRet at hret
      by_cases h1 : jMd y = 1
      · rw [h1] at hret
        obtain ⟨c1, c2, c3, c4, c5⟩ := b3 h1
        have hl := r5.1
        have := hret.1
        have hk2 := jMd1_k2 hy hyl h1
        refine ⟨hret.2, fun q => ?_, by omega⟩
        have := jKi2_rt hy hyl hk2
        omega
      · have h2 : ws'.length = ws.length + jMc y := by have q1 := b4 h1; have q2 := d2 h1; omega
        split at hret
        · exact absurd ‹_› h1
        · split at hret
          · split at hret
            · exact ⟨hret, fun _ => ‹_›, h2⟩
            · exact hret.elim
          · exact ⟨hret, fun q => absurd q ‹_›, h2⟩
    refine ⟨fun t ht hW => ⟨⟨v, m', ws', tys', hKv.1, hoc, r5, by rw [ht]; exact r1, va_K.moved hW.alike r3, r2, r10, r8, hKv.2.2⟩, r4.F ht⟩, r4.2.2, by omega, ?_, hKv.2.1⟩
    rw [← hKv.2.2]
    omega
  have hE : jEnds p l e (headSpec (jWs y) (jRm d y ws.length)).room s mi Args.toArray below meth c (MQ below (jQc D fu ws sz g y K) Args.toArray s (jMc y) (jOf (ws.length + jMc y) - jOf ws.length) (va_A ws sz)) D (va_A ws sz) s.heap y fu none g ws.length ws K := by
    refine ⟨fun pc H locs cells slots ws' tys' lsR ls m' x hd hrt hrel hret => ?_, fun pc H locs cells slots ws' tys' lsR ls m' x hd hrt hrel hret => ?_, fun pc H locs cells slots ws' tys' lsR ls m' hd hrt hrel hret => ?_⟩
    · have hoc : jOc (jRt y) x.toInt (.returned (some (.int x))) := by
        rcases hrt with q | q <;> (rw [q]; exact ⟨x, rfl, rfl⟩)
      obtain ⟨k1, k2, k3, k4, k5⟩ := fin hrel hret hoc
      subst k3 k4
      rcases hrt with q | q
      · have hr1 : meth.sig.returnType = some .int := by rw [hr, d1, q]; rfl
        exact W.iret hx hb hr1 k1 k2 hd hlocks
      · have hr1 : meth.sig.returnType = some .boolean := by rw [hr, d1, q]; rfl
        exact W.zret hx hb hr1 (jNar_z (k5 q)) k1 k2 hd hlocks
    · have hoc : jOc (jRt y) x.toInt (.returned (some (.long x))) := by rw [hrt]; exact ⟨x, rfl, rfl⟩
      obtain ⟨k1, k2, k3, k4, k5⟩ := fin hrel hret hoc
      subst k3 k4
      have hr1 : meth.sig.returnType = some .long := by rw [hr, d1, hrt]; rfl
      exact W.lret hx hb hr1 k1 k2 hd hlocks
    · have hoc : jOc (jRt y) 0 (.returned none) := by rw [hrt]; rfl
      obtain ⟨k1, k2, k3, k4, k5⟩ := fin hrel hret hoc
      subst k3 k4
      have hr1 : meth.sig.returnType = none := by rw [hr, d1, hrt]; rfl
      exact W.vret hx hb hr1 k1 k2 hd hlocks
  rw [lg_entry_eq]
  refine jFrame (d := d) hc ⟨?_, ?_⟩ ih hE d8 d7 (jDc_of hy hyl) hk _ _ _ _ _ tys _ _ ⟨⟨hP, hD0.self, hK, va_S.rf, f4⟩, jEnt_lr f3 f6, trivial, f5, ?_, jEx_rf ws⟩
  · show d + 1 ≤ d + 1
    omega
  · show 60 * (d + 1) ≤ 60 * (d + 1)
    omega
  · refine ⟨Nat.zero_add _, Nat.zero_add _, fun h => ⟨(f2 h).2.1, Nat.le_refl _, ?_, (f2 h).2.2, Nat.le_add_right _ _⟩, fun _ => rfl⟩
    show jOf (ws.length + jMc y) ≤ jOf (ws.length + jMc y) - jOf ws.length + jOf ws.length
    omega
/-- the induction -/
theorem jSound (l : Launch) (d : Nat) : ∀ (y : Nat) (aargs : List jV) (m : jM) (K : Int → jM → Prop), y ∈ jZs → y ≠ zL_law → jK d y aargs m K → jGood l d y aargs m K := by
  induction d with
  | zero =>
    intro y aargs m K hy hyl hk
    exact jSound1 l 0 (fun e0 h => by omega) hy hyl hk
  | succ d ih =>
    intro y aargs m K hy hyl hk
    exact jSound1 l (d + 1) (fun e0 h y a m K q1 q2 q3 => by cases h; exact ih y a m K q1 q2 q3) hy hyl hk
