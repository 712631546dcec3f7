/-! a call is a call of the machine -/
section CALL2
variable {p : Program} {l : Launch} {e : Env} {R : Room} {s : State} {mi : MethodId} {args : Array Value} {below : List Frame} {meth : Method} {c : Code} {Qf : State → Prop} {D : va_G} {A : Nat → Prop} {H0 : Heap} {Ts : List Jvm.Cond} {z : Nat} {fu : Bool} {sb : Option (Nat × Nat)} {g : Int → Int} {n0 : Nat} {ws0 : va_W}
variable {pc : Nat} {ls : jS} {st : List jV} {m : jM} {C : Nat → List jV → jM → (Int → jM → Prop) → Prop} {Q : Int → jM → Prop}
variable {H : Heap} {locs : List Loc} {cells slots : Nat} {ws : va_W} {tys : List (ClassId × FieldType)} {lsR : Array Slot} {stR : List Value}
theorem jOf_mono {a b : Nat} (h : a ≤ b) : jOf a ≤ jOf b := by
  induction h with
  | refl => exact Nat.le_refl _
  | step _ ih => exact Nat.le_trans ih (Nat.le_add_right _ _)
theorem jPre_in (hc : jCx p R s mi args meth c A H0 Ts z fu sb g) (hr : va_P D jVc ws H ∧ va_D A ws ∧ va_K D jVc tys s) (U : State) (hU : U.heap = H) (hW : s.WarmedH U.vm) : jPre D ws tys H.size U :=
  ⟨by rw [hU], by rw [hU]; exact hr.1, va_K.moved hW.alike hr.2.2, hr.2.1.weaken (fun _ _ _ _ => trivial), jKO_warm hW ⟨hc.2.2.2.2.2.2.1, hc.2.2.2.2.2.2.2.1.1, hc.2.2.2.2.2.2.2.1.2⟩⟩
/-- what a call needs of the link: its word is in the tables, or (a constructor of a nest mate) a word of the nest -/
def jLink (z i y : Nat) : Prop := Jvm.Cond.methodLink (jRn (jCl z)) i (jYn y) ∈ jBW ∨ (jKi y = 2 ∧ Jvm.Cond.methodLinkNest (jRn (jCl z)) i (jYn y) "CourtMatcher" ∈ jNests)
theorem jr_run {e0 y i : Nat} {K0 : Int → jM → Prop} {gy : Int → Int} {fuy : Bool} {aargs : List jV} {b1 b2 : List Value} (r : Instr) (hc : jCx p R s mi args meth c A H0 Ts z fu sb g) (hroom : e0 + 2 ≤ R.frames ∧ 60 * (e0 + 2) ≤ R.locals)
    (hy : y ∈ jZs) (hyl : y ≠ zL_law) (hlink : jLink z i y) (hr : (jKi y = 0 ∧ r = .invokestatic i ∧ Jvm.Cond.methodLink (jRn (jCl z)) i (jYn y) ∈ jBW) ∨ (jKi y = 1 ∧ r = .invokevirtual i ∧ Jvm.Cond.methodLink (jRn (jCl z)) i (jYn y) ∈ jBW) ∨ (jKi y = 2 ∧ r = .invokespecial i)) (hd : decode (jBy z) pc = .ok (r, 3))
    (hM : Met l (jYn y) (jWs y) (jRm e0 y ws.length) (va_Pc b1.reverse (jPre D ws tys H.size)) (jQc D fuy ws H.size gy y K0) (jMc y) (jOf (ws.length + jMc y) - jOf ws.length) (va_A ws H.size))
    (hP : va_P D jVc ws H ∧ va_D A ws ∧ va_K D jVc tys s) (hW : jWd fu ws tys m) (hs : jSr ws none aargs b1.reverse) (hhd : jKi y = 0 ∨ jHd (jCl y) aargs = true) (hlen : b1.length = jNa y) (hcat : (b2.map fun v => v.category).sum ≤ 8) (hsz : lsR.size = jMx z) (hf : cells + jMc y ≤ R.cells ∧ slots + (jOf (ws.length + jMc y) - jOf ws.length) ≤ R.slots) :
    ∃ aR, va_Run p l e R s mi args below meth c H locs cells slots (jMc y) (jOf (ws.length + jMc y) - jOf ws.length) (F0 mi pc lsR (b1 ++ b2)) b2 (jQc D fuy ws H.size gy y K0 aR) (va_A ws H.size) := by
  obtain ⟨w1, w2, w3, w4, w5, w6, w7, w8, w9, w10, d1, d2, d3, d4, d5, d6, d7, d8⟩ := jMw_ok hy hyl
  have hBW := fun w hw => hc.2.2.2.2.1 w (hc.2.2.2.2.2.1 w hw)
  have hfix : CallFix p mi c (jBy z) (jMx z) s args Ts (jRn (jCl z)) := ⟨hc.1, hc.2.1, hc.2.2.1, hc.2.2.2.1, hc.2.2.2.2.1⟩
  have hGI : GoodIn Ts (jWs y) := jGoodIn hc.2.2.2.2.2.1 w1
  have hR : (jRm e0 y ws.length).frames + 1 ≤ R.frames ∧ 8 + (jMx y + 11) + (jRm e0 y ws.length).locals ≤ R.locals := by
    constructor
    · show e0 + 1 + 1 ≤ _
      omega
    · show 8 + (jMx y + 11) + 60 * (e0 + 1) ≤ _
      omega
  have hmr : 2 * (F0 mi pc lsR (b1 ++ b2)).monitorRoom + (b2.map fun v => v.category).sum ≤ 8 := by
    show 2 * 0 + _ ≤ 8
    omega
  have hpre : ∀ U : State, U.heap = H → s.WarmedH U.vm → va_Pc b1.reverse (jPre D ws tys H.size) b1.reverse.toArray U := fun U hU hW' => ⟨rfl, jPre_in hc hP U hU hW'⟩
  have split : jKi y ≠ 0 → ∃ (b : Nat) (As : List Value), b1.reverse = .ref b :: As ∧ b1 ++ b2 = As.reverse ++ .ref b :: b2 ∧ As.length = jNa y - 1 ∧ ∃ cell : Cell, H[b]? = some cell ∧ cell.vm.isStatics = false ∧ s.vm.findClass (jRn (jCl y)) = some cell.cls := by
    intro hk
    have hh : jHd (jCl y) aargs = true := by
      rcases hhd with q | q
      · exact absurd q hk
      · exact q
    match aargs, hs, hh with
    | .inr (.inr (.inl (cy, k))) :: ar, hs, hh =>
      cases hb : b1.reverse with
      | nil => rw [hb] at hs; exact hs.elim
      | cons w As =>
        rw [hb] at hs
        obtain ⟨⟨hk1, b, rfl, hrf⟩, -⟩ := hs
        have hcy : cy = jCl y := Nat.eq_of_beq_eq_true hh
        have h12 : jKd k < 12 := by rw [hk1, hcy]; exact (d3 hk).1
        obtain ⟨vs, o1, -⟩ := jWd_obj hW hrf h12
        obtain ⟨cell, q1, q2, q3⟩ := va_recv hP.2.2 hP.1 (jVc_at h12) o1
        have hb1 : b1 = As.reverse ++ [.ref b] := by
          have := congrArg List.reverse hb
          rw [List.reverse_reverse, List.reverse_cons] at this
          exact this
        refine ⟨b, As, rfl, by rw [hb1]; simp, ?_, cell, q1, q2, by rw [← hcy, ← hk1]; exact q3⟩
        have := congrArg List.length hb1
        simp at this
        omega
  rcases hr with ⟨hk, rfl, hl⟩ | ⟨hk, rfl, hl⟩ | ⟨hk, rfl⟩
  · have hpar : (parseMethodDescriptor (jYn y).desc).map (fun d => d.parameters.length) = some (jNa y) := by rw [w8, if_pos hk]
    have hcb := callB_of (s := s) (args := args) (own := jRn (jCl z)) (index := i) (R := R) (jNa y) hc.2.2.2.2.1 hGI rfl rfl rfl (hBW _ w5) (hBW _ hl) ⟨w7.1, w7.2, hpar⟩ hR
    exact ⟨_, va_runS (As := b1.reverse) hfix hM ⟨hcb, hBW _ (w2 hk)⟩ ⟨jBlind, hpre⟩ rfl (by rw [List.length_reverse]; exact hlen) hsz (by show b1 ++ b2 = _; rw [List.reverse_reverse]) hmr hd hf⟩
  · obtain ⟨b, As, e1, e2, e3, cell, q1, q2, q3⟩ := split (by omega)
    have hpar : (parseMethodDescriptor (jYn y).desc).map (fun d => d.parameters.length) = some (jNa y - 1) := by rw [w8, if_neg (by omega)]
    have hcb := callB_of (s := s) (args := args) (own := jRn (jCl z)) (index := i) (R := R) (jNa y - 1) hc.2.2.2.2.1 hGI rfl rfl rfl (hBW _ w5) (hBW _ hl) ⟨w7.1, w7.2, hpar⟩ hR
    rw [e1] at hM hpre
    exact ⟨_, va_runV (C := jRn (jCl y)) (As := As) hfix hM ⟨hcb, hBW _ (w3 (by omega)), hBW _ (w4 hk)⟩ ⟨jBlind, ⟨cell, q1, q2, q3⟩, hpre⟩ rfl e3 hsz e2 hmr hd hf⟩
  · obtain ⟨b, As, e1, e2, e3, cell, q1, q2, q3⟩ := split (by omega)
    have hpar : (parseMethodDescriptor (jYn y).desc).map (fun d => d.parameters.length) = some (jNa y - 1) := by rw [w8, if_neg (by omega)]
    rw [e1] at hM hpre
    have hret : jRy y = none ∨ jRy y ≠ none := Classical.em _
    rcases hlink with hl | ⟨-, hl⟩
    · have hcb := callB_of (s := s) (args := args) (own := jRn (jCl z)) (index := i) (R := R) (jNa y - 1) hc.2.2.2.2.1 hGI rfl rfl rfl (hBW _ w5) (hBW _ hl) ⟨w7.1, w7.2, hpar⟩ hR
      have hn := jKi2_none hy hyl hk
      rw [hn] at hcb
      exact ⟨_, va_runI (b := b) (As := As) hfix hM ⟨hcb, w9 hk, hBW _ (w3 (by omega))⟩ ⟨jBlind, hpre⟩ rfl e3 hsz e2 hmr hd hf⟩
    · have hcb := va_cnB (s := s) (args := args) (own := jRn (jCl z)) (index := i) (R := R) (host := "CourtMatcher") (ws' := jBW) (jNa y - 1) hc.2.2.2.2.1 hGI rfl (rm := jRm e0 y ws.length) rfl rfl (hc.2.2.2.2.2.2.1 _ hl) (hBW _ w5) ⟨w7.1, w7.2, hpar⟩ hR
      have hn := jKi2_none hy hyl hk
      rw [hn] at hcb
      exact ⟨_, va_runIN (b := b) (As := As) hfix hM ⟨hcb, w9 hk, hBW _ (w3 (by omega))⟩ ⟨jBlind, hpre⟩ rfl e3 hsz e2 hmr hd hf⟩
theorem jr_call {e0 y i : Nat} (r : Instr) (hc : jCx p R s mi args meth c A H0 Ts z fu sb g) (hroom : e0 + 2 ≤ R.frames ∧ 60 * (e0 + 2) ≤ R.locals) (hC : ∀ y a m K, y ∈ jZs → y ≠ zL_law → C y a m K → jGood l e0 y a m K)
    (hy : y ∈ jZs) (hyl : y ≠ zL_law) (hz2 : jMd z ≤ 2) (hlink : jLink z i y) (hk : (jKi y = 0 ∧ r = .invokestatic i ∧ Jvm.Cond.methodLink (jRn (jCl z)) i (jYn y) ∈ jBW) ∨ (jKi y = 1 ∧ r = .invokevirtual i ∧ Jvm.Cond.methodLink (jRn (jCl z)) i (jYn y) ∈ jBW) ∨ (jKi y = 2 ∧ r = .invokespecial i)) (hd : decode (jBy z) pc = .ok (r, 3))
    (h : jStp z C (jP p l e R s mi args below meth c Qf D A H0 z fu sb g n0 ws0) Q pc 3 ls m (jEff z (.invokestatic y) 3 pc ls st m)) : jP p l e R s mi args below meth c Qf D A H0 z fu sb g n0 ws0 pc ls st m := by
  obtain ⟨⟨hlen, hcat, hlay, hhd, hns⟩, h1⟩ := jIf_inv h
  have h1 : jCal z y C (st.take (jNa y)).reverse m (fun v m' => jP p l e R s mi args below meth c Qf D A H0 z fu sb g n0 ws0 (pc + 3) ls (jPush (jRt y) v (st.drop (jNa y))) m') := h1
  obtain ⟨w1, w2, w3, w4, w5, w6, w7, w8, w9, w10, d1, d2, d3, d4, d5, d6, d7, d8⟩ := jMw_ok hy hyl
  intro H locs cells slots ws tys lsR stR hr
  obtain ⟨⟨hP, hD, hK, hS, hW⟩, hl, hst, hg, ⟨b1, b2, b3, b4⟩, hx⟩ := hr
  obtain ⟨v1, v2, rfl, s1, s2, s3⟩ := jSr_take (jNa y) hst hlen
  have hcs := jSr_cats s2
  have hsz : lsR.size = jMx z := by
    obtain ⟨-, lv, hlv, -⟩ := hl
    exact hlv.1
  have hargs : jSr ws none (st.take (jNa y)).reverse v1.reverse := jSr_none (jSr_rev s1) (jNs_rev hns)
  have hPDK := And.intro hP (And.intro hD hK)
  have hbd : ∀ (ws' : va_W) (m'' : jM), (jMd z = 1 → ws.length + jMc y ≤ n0 + jMc z) → (jMd z ≠ 1 → jMc y = 0) → ws'.length = ws.length + jMc y → (∀ j, m'' (-2) j = g j) → jBd R z n0 ws' m'' (cells + jMc y) (slots + (jOf (ws.length + jMc y) - jOf ws.length)) := by
    intro ws' m'' q1 q2 hl' hg'
    have hm := @jOf_mono ws.length (ws.length + jMc y) (Nat.le_add_right _ _)
    refine ⟨by omega, by rw [hl']; omega, fun hz => ?_, fun hz => ?_⟩
    · obtain ⟨c1, c2, c3, c4, c5⟩ := b3 hz
      have := q1 hz
      exact ⟨by rw [hg' (-7), ← hg (-7)]; exact c1, c2, c3, c4, by omega⟩
    · have := q2 hz
      have := b4 hz
      omega
  have hroom2 : (jMd z = 1 → ws.length + jMc y ≤ n0 + jMc z) → (jMd z ≠ 1 → jMc y = 0) → cells + jMc y ≤ R.cells ∧ slots + (jOf (ws.length + jMc y) - jOf ws.length) ≤ R.slots := by
    intro q1 q2
    have hm := @jOf_mono ws.length (ws.length + jMc y) (Nat.le_add_right _ _)
    by_cases hz : jMd z = 1
    · obtain ⟨c1, c2, c3, c4, c5⟩ := b3 hz
      have q := q1 hz
      have := jOf_mono q
      omega
    · have e1 := q2 hz
      have e2 := b4 hz
      rw [e1]
      have : jOf ws.length = jOf n0 := by rw [e2]
      simp only [Nat.add_zero, Nat.sub_self]
      omega
  -- one road for all modes
  have road : ∀ (fuy : Bool) (m0 : jM) (gy : Int → Int) (K0 : Int → jM → Prop), C y (st.take (jNa y)).reverse m0 K0 → (jMd y = 0 → fuy = true) → (jMd y = 1 → fuy = false ∧ m0 (-2) (-7) = ((ws.length + jMc y : Nat) : Int) ∧ ws.length + jMc y ≤ 160) → jWd fuy ws tys m0 → (∀ j, m0 (-2) j = gy j) →
      (∀ (w : va_W) (ty : List (ClassId × FieldType)) (q : jM), jWd fuy w ty q → jWd fu w ty q) → (jMd z = 1 → ws.length + jMc y ≤ n0 + jMc z) → (jMd z ≠ 1 → jMc y = 0) →
      (∀ (v : Int) (m' : jM), K0 v m' → (∀ j, m' (-2) j = gy j) → (∃ (w : va_W) (ty : List (ClassId × FieldType)), jWd fuy w ty m') → ∃ m'', (∀ q j : Int, q ≠ -2 → m'' q j = m' q j) ∧ (∀ j, m'' (-2) j = g j) ∧ jP p l e R s mi args below meth c Qf D A H0 z fu sb g n0 ws0 (pc + 3) ls (jPush (jRt y) v (st.drop (jNa y))) m'') →
      W p l e R s mi args below meth c H locs cells slots Qf (F0 mi pc lsR (v1 ++ v2)) := by
    intro fuy m0 gy K0 hCy f1 f2 f3 f4 f5 f6 f7 kk
    have hM := hC y _ m0 K0 hy hyl hCy D fuy ws tys v1.reverse H.size gy f1 f2 hargs f3 f4 hlay
    obtain ⟨aR, hrun⟩ := jr_run (below := below) (e := e) (locs := locs) (cells := cells) (slots := slots) (meth := meth) r hc hroom hy hyl hlink hk hd hM hPDK hW hargs hhd s3 (by rw [hcs]; exact hcat) hsz (hroom2 f6 f7)
    exact jr_back hc hrun f5 d5 rfl rfl hP hD hS hl s2 hx ⟨b1, b2⟩ kk (fun ws' m'' q1 q2 => hbd ws' m'' f6 f7 q1 q2)
  unfold jCal at h1
  split at h1
  · rename_i ez ey
    have hfu := hc.2.2.2.2.2.2.2.2.2.2.1 ez
    exact road fu m g _ h1 (fun _ => hfu) (fun q => by omega) hW hg (fun _ _ _ q => q) (fun q => by omega) (fun _ => d2 (by omega)) (fun v m' hK' hg' _ => ⟨m', fun _ _ _ => rfl, hg', hK'⟩)
  · rename_i ez ey
    exact road fu m g _ h1 (fun q => by omega) (fun q => by omega) hW hg (fun _ _ _ q => q) (fun q => by omega) (fun _ => d2 (by omega)) (fun v m' hK' hg' _ => ⟨m', fun _ _ _ => rfl, hg', hK'⟩)
  · rename_i ez ey
    obtain ⟨c1, c2, c3, c4, c5⟩ := b3 ez
    exact road fu m g _ h1 (fun q => by omega) (fun q => by omega) hW hg (fun _ _ _ q => q) (fun _ => by rw [d2 (by omega)]; exact c5) (fun _ => d2 (by omega)) (fun v m' hK' hg' _ => ⟨m', fun _ _ _ => rfl, hg', hK'⟩)
  · rename_i ez ey
    obtain ⟨c1, c2, c3, c4, c5⟩ := b3 ez
    have hfu := (hc.2.2.2.2.2.2.2.2.2.2.2.1 ez).1
    subst hfu
    exact road true m g _ h1.2 (fun _ => rfl) (fun q => by omega) (jFull_wd hW h1.1) hg (fun _ _ _ q => jWd_weak q) (fun _ => by rw [d2 (by omega)]; exact c5) (fun _ => d2 (by omega)) (fun v m' hK' hg' ⟨w, ty, hw⟩ => ⟨m', fun _ _ _ => rfl, hg', hK' (jWd_isFull hw)⟩)
  · rename_i ez ey
    obtain ⟨c1, c2, c3, c4, c5⟩ := b3 ez
    have hfu := (hc.2.2.2.2.2.2.2.2.2.2.2.1 ez).1
    subst hfu
    have hlen' := hW.1
    have hlim := h1.1
    have hW2 : jWd false ws tys (jLim m y) := by
      obtain ⟨u1, u2, u3, u4⟩ := hW
      exact ⟨by rw [show jLim m y (-3) 0 = m (-3) 0 from jUp_ne (by omega)]; exact u1, u2, u3, fun k a ee hk => jEn_same (jEx_rf _) (fun _ _ q => q) (fun j => jUp_ne (by omega)) (u4 k a ee hk)⟩
    refine road false (jLim m y) (fun j => jLim m y (-2) j) _ h1.2 (fun q => by omega) (fun _ => ⟨rfl, ?_, by omega⟩) hW2 (fun _ => rfl) (fun _ _ _ q => q) (fun _ => by omega) (fun q => absurd ez q) (fun v m' hK' hg' _ => ⟨_, fun q j hq => jUp_ne hq, fun j => ?_, hK'⟩)
    · show jUp m (-2) (-7) _ (-2) (-7) = _
      rw [jUp_eq, hlen']
      omega
    · by_cases hj : j = -7
      · subst hj
        rw [jUp_eq]
        exact hg (-7)
      · rw [jUp_ni hj, hg' j]
        show jUp m (-2) (-7) _ (-2) j = _
        rw [jUp_ni hj]
        exact hg j
  · exact h1.elim
end CALL2
