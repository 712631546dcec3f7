/-! CALLS -/
def jWs (y : Nat) : List Jvm.Cond := Jvm.Cond.code (jYn y) (jBy y) (jMx y) (jRy y) :: jBW
def jKO (U : State) : Prop := (∀ w ∈ jNests, va_Nw w U) ∧ va_AO RX6 U ∧ va_AO RX7 U
def jRm (e y n : Nat) : Room := { frames := e + 1, cells := jMc y, slots := jOf (n + jMc y) - jOf n, locals := 60 * (e + 1) }
def jOc (rt : Nat) (v : Int) (oc : Outcome) : Prop := match rt with
  | 0 => oc = .returned none
  | 2 => ∃ x : Int64, oc = .returned (some (.long x)) ∧ v = x.toInt
  | _ => ∃ x : Int32, oc = .returned (some (.int x)) ∧ v = x.toInt
def jPre (D : va_G) (ws : va_W) (tys : List (ClassId × FieldType)) (sz : Nat) (U : State) : Prop := U.heap.size = sz ∧ va_P D jVc ws U.heap ∧ va_K D jVc tys U ∧ va_D (fun _ => True) ws ∧ jKO U
def jQc (D : va_G) (fu : Bool) (ws : va_W) (sz : Nat) (g : Int → Int) (y : Nat) (K : Int → jM → Prop) : Array Value → State → Outcome → State → Prop := fun _ st oc t =>
  (∃ (v : Int) (m' : jM) (ws' : va_W) (tys' : List (ClassId × FieldType)), K v m' ∧ jOc (jRt y) v oc ∧ jWd fu ws' tys' m' ∧ va_P D jVc ws' t.heap ∧ va_K D jVc tys' t ∧ va_D (va_A ws sz) ws' ∧ jEx ws ws' ∧ (∀ j, m' (-2) j = g j) ∧ ws'.length = ws.length + jMc y) ∧ va_F (va_A ws sz) st t
/-- a method's contract -/
def jGood (l : Launch) (e y : Nat) (aargs : List jV) (m : jM) (K : Int → jM → Prop) : Prop :=
  ∀ (D : va_G) (fu : Bool) (ws : va_W) (tys : List (ClassId × FieldType)) (Args : List Value) (sz : Nat) (g : Int → Int), (jMd y = 0 → fu = true) → (jMd y = 1 → fu = false ∧ m (-2) (-7) = ((ws.length + jMc y : Nat) : Int) ∧ ws.length + jMc y ≤ 160) → jSr ws none aargs Args → jWd fu ws tys m → (∀ j, m (-2) j = g j) → (jLay aargs).length ≤ jMx y →
    Met l (jYn y) (jWs y) (jRm e y ws.length) (va_Pc Args (jPre D ws tys sz)) (jQc D fu ws sz g y K) (jMc y) (jOf (ws.length + jMc y) - jOf ws.length) (va_A ws sz)
theorem jNests_all : ∀ w ∈ jNests, (∀ {s U : State}, s.WarmedH U.vm → va_Nw w s → va_Nw w U) ∧ w.onTables = true := by
  unfold jNests
  intro w hw
  simp only [List.mem_cons, List.not_mem_nil, or_false] at hw
  rcases hw with rfl | rfl | rfl | rfl | rfl | rfl | rfl | rfl | rfl | rfl | rfl <;> exact ⟨fun hW hZ => va_Nw.warmM hW hZ, rfl⟩
theorem jKO_warm {s U : State} (hW : s.WarmedH U.vm) (h : jKO s) : jKO U := ⟨fun w hw => (jNests_all w hw).1 hW (h.1 w hw), va_AO.moved hW.alike h.2.1, va_AO.moved hW.alike h.2.2⟩
theorem jKO_same {u U : State} (hv : u.vm = U.vm) (h : jKO u) : jKO U := ⟨fun w hw => va_Nw.same (jNests_all w hw).2 hv (h.1 w hw), va_AO.moved (by rw [hv]; exact Vm.Alike.refl _) h.2.1, va_AO.moved (by rw [hv]; exact Vm.Alike.refl _) h.2.2⟩
theorem jBlind {D : va_G} {ws : va_W} {tys : List (ClassId × FieldType)} {sz : Nat} {Args : List Value} : FrameBlind (va_Pc Args (jPre D ws tys sz)) := by
  intro a U g mk h
  obtain ⟨h1, h2, h3, h4, h5, h6⟩ := h
  exact ⟨h1, h2, h3, va_K.moved (u := U) (U := U.calling g mk a) (Vm.Alike.refl U.vm) h4, h5, jKO_same (u := U) (U := U.calling g mk a) rfl h6⟩
theorem jMw_of {y : Nat} (hy : y ∈ jZs) (hl : y ≠ zL_law) : ∃ q ∈ jMw, q.1 = y := by
  have h := List.all_eq_true.mp jMw_zs y hy
  simp only [Bool.or_eq_true, decide_eq_true_eq] at h
  rcases h with h | h
  · exact absurd h hl
  · have := List.contains_iff_mem.mp h
    obtain ⟨q, h1, h2⟩ := List.mem_map.mp this
    exact ⟨q, h1, h2⟩
theorem jTake25 {α : Type} {l : List α} {f : α → Bool} (n : Nat) (hn : l.length ≤ 25 * n) (h : ∀ k, k < n → ((l.drop (25 * k)).take 25).all f = true) {q : α} (hq : q ∈ l) : f q = true := by
  obtain ⟨i, hi⟩ := List.getElem?_of_mem hq
  have hlt : i < l.length := (List.getElem?_eq_some_iff.mp hi).1
  have h1 := h (i / 25) (by omega)
  refine List.all_eq_true.mp h1 q (List.mem_of_getElem? (i := i % 25) ?_)
  rw [List.getElem?_take, if_pos (by omega), List.getElem?_drop, show 25 * (i / 25) + i % 25 = i by omega]
  exact hi
def jPf (q : Nat × Nat × Nat × Nat × Nat) : Bool := decide ((parseMethodDescriptor (jYn q.1).desc).map (fun d => d.parameters.length) = some (if jKi q.1 = 0 then jNa q.1 else jNa q.1 - 1))
theorem jMw_e10 : ((jMw.drop 250).take 25).all (fun q => decide ((parseMethodDescriptor (jYn q.1).desc).map (fun d => d.parameters.length) = some (if jKi q.1 = 0 then jNa q.1 else jNa q.1 - 1))) = true := by decide +kernel
theorem jMw_len : jMw.length ≤ 25 * 11 := by decide +kernel
theorem jMw_pf (k : Nat) (hk : k < 11) : ((jMw.drop (25 * k)).take 25).all jPf = true := by
  match k, hk with
  | 0, _ => exact jMw_e0
  | 1, _ => exact jMw_e1
  | 2, _ => exact jMw_e2
  | 3, _ => exact jMw_e3
  | 4, _ => exact jMw_e4
  | 5, _ => exact jMw_e5
  | 6, _ => exact jMw_e6
  | 7, _ => exact jMw_e7
  | 8, _ => exact jMw_e8
  | 9, _ => exact jMw_e9
  | 10, _ => exact jMw_e10
theorem jMw_par {q : Nat × Nat × Nat × Nat × Nat} (hq : q ∈ jMw) : (parseMethodDescriptor (jYn q.1).desc).map (fun d => d.parameters.length) = some (if jKi q.1 = 0 then jNa q.1 else jNa q.1 - 1) := by
  have h : jPf q = true := jTake25 11 jMw_len jMw_pf hq
  unfold jPf at h
  exact of_decide_eq_true h
theorem jPc_25 {α : Type} {P : α → Prop} {l : List α} (n : Nat) (hn : l.length ≤ 25 * n) (h : ∀ k, k < n → ∀ q ∈ (l.drop (25 * k)).take 25, P q) {q : α} (hq : q ∈ l) : P q := by
  obtain ⟨i, hi⟩ := List.getElem?_of_mem hq
  have hlt : i < l.length := (List.getElem?_eq_some_iff.mp hi).1
  refine h (i / 25) (by omega) q (List.mem_of_getElem? (i := i % 25) ?_)
  rw [List.getElem?_take, if_pos (by omega), List.getElem?_drop, show 25 * (i / 25) + i % 25 = i by omega]
  exact hi
theorem jPc_of {y : Nat} (hy : y ∈ jZs) (hl : y ≠ zL_law) : jPc y := by
  obtain ⟨q, hq, rfl⟩ := jMw_of hy hl
  have hm : q.1 ∈ jMw.map (fun q => q.1) := List.mem_map.mpr ⟨q, hq, rfl⟩
  refine jPc_25 (P := jPc) 11 (by decide +kernel) (fun k hk => ?_) hm
  match k, hk with
  | 0, _ => exact jPs_0
  | 1, _ => exact jPs_1
  | 2, _ => exact jPs_2
  | 3, _ => exact jPs_3
  | 4, _ => exact jPs_4
  | 5, _ => exact jPs_5
  | 6, _ => exact jPs_6
  | 7, _ => exact jPs_7
  | 8, _ => exact jPs_8
  | 9, _ => exact jPs_9
  | 10, _ => exact jPs_10
/-- all that the tables say of a method that is called -/
theorem jMw_ok {y : Nat} (hy : y ∈ jZs) (hl : y ≠ zL_law) : Jvm.Cond.code (jYn y) (jBy y) (jMx y) (jRy y) ∈ jBW ∧ (jKi y = 0 → Jvm.Cond.static (jYn y) ∈ jBW) ∧ (jKi y ≠ 0 → Jvm.Cond.instanceMethod (jYn y) ∈ jBW) ∧ (jKi y = 1 → Jvm.Cond.selects (jRn (jCl y)) (jYn y) (jYn y) ∈ jBW) ∧ Jvm.Cond.initialized (jYn y).cls ∈ jBW ∧ (jYn y).cls = jRn (jCl y) ∧ ((jYn y).cls ≠ "java/lang/invoke/MethodHandle" ∧ (jYn y).cls ≠ "java/lang/invoke/VarHandle") ∧ (parseMethodDescriptor (jYn y).desc).map (fun d => d.parameters.length) = some (if jKi y = 0 then jNa y else jNa y - 1) ∧ (jKi y = 2 → (jYn y).name = "<init>") ∧ plainFor (jYn y) = true ∧
    (jRy y = (match jRt y with
    | 0 => none
    | 1 => some .int
    | 2 => some .long
    | _ => some .boolean) ∧ (jMd y ≠ 1 → jMc y = 0) ∧ (jKi y ≠ 0 → jCl y < 12 ∧ 1 ≤ jNa y) ∧ jMx y ≤ 40 ∧ jRt y ≤ 3 ∧ jKi y ≤ 2 ∧ jMd y ≤ 2 ∧ jCl y < 16) := by
  have hpc := jPc_of hy hl
  obtain ⟨q, hq, rfl⟩ := jMw_of hy hl
  have ha := List.all_eq_true.mp jMw_a q hq
  have hb := List.all_eq_true.mp jMw_b q hq
  have hc := List.all_eq_true.mp jMw_c q hq
  have hd := List.all_eq_true.mp jMw_d q hq
  have hp := List.all_eq_true.mp jMw_p q hq
  have hpar := jMw_par hq
  simp only [Bool.and_eq_true, decide_eq_true_eq] at hb hc hd
  have hcl : (jYn q.1).cls ∈ jRns := by
    rw [hc.1]
    unfold jRn
    have h16 : jCl q.1 < jRns.length := hd.2
    rw [List.getD_eq_getElem?_getD, List.getElem?_eq_getElem h16]
    exact List.getElem_mem _
  have hpl := List.all_eq_true.mp jRn_plain _ hcl
  simp only [Bool.and_eq_true, decide_eq_true_eq] at hpl
  refine ⟨jHas_BW hpc rfl, fun k => ?_, fun k => ?_, fun k => ?_, jHas_BW (jHas_mem hb.2) rfl, hc.1, hpl, hpar, hc.2, hp, ?_⟩
  · rw [if_pos k] at ha
    exact jHas_BW (jHas_mem ha) rfl
  · rw [if_neg k] at ha
    exact jHas_BW (jHas_mem ha) rfl
  · have := hb.1
    rw [if_pos k] at this
    exact jHas_BW (jHas_mem this) rfl
  · obtain ⟨⟨⟨⟨⟨⟨⟨d1, d2⟩, d3⟩, d4⟩, d5⟩, d6⟩, d7⟩, d8⟩ := hd
    exact ⟨d1, d2, d3, d4, d5, d6, d7, d8⟩
theorem jMw_k2 : jMw.all (fun q => decide (jKi q.1 = 2 → jRt q.1 = 0)) = true := by decide +kernel
theorem jKi2_none {y : Nat} (hy : y ∈ jZs) (hl : y ≠ zL_law) (hk : jKi y = 2) : jRy y = none := by
  have h := (jMw_ok hy hl).2.2.2.2.2.2.2.2.2.2.1
  obtain ⟨q, hq, rfl⟩ := jMw_of hy hl
  have h2 := of_decide_eq_true (List.all_eq_true.mp jMw_k2 q hq) hk
  rw [h2] at h
  exact h
section CALL
variable {p : Program} {l : Launch} {e : Env} {R : Room} {s : State} {mi : MethodId} {args : Array Value} {below : List Frame} {meth : Method} {c : Code} {Qf : State → Prop} {D : va_G} {A : Nat → Prop} {H0 : Heap} {Ts : List Jvm.Cond} {z : Nat} {fu : Bool} {sb : Option (Nat × Nat)} {g : Int → Int} {n0 : Nat} {ws0 : va_W}
variable {pc : Nat} {ls : jS} {st : List jV} {m : jM} {C : Nat → List jV → jM → (Int → jM → Prop) → Prop} {Q : Int → jM → Prop}
variable {H : Heap} {locs : List Loc} {cells slots : Nat} {ws : va_W} {tys : List (ClassId × FieldType)} {lsR : Array Slot} {stR : List Value}
theorem jGoodIn {Ts : List Jvm.Cond} {y : Nat} (hBT : ∀ w ∈ jBW, w ∈ Ts) (hcode : Jvm.Cond.code (jYn y) (jBy y) (jMx y) (jRy y) ∈ jBW) : GoodIn Ts (jWs y) := by
  intro w hw
  have hb : w ∈ jBW := by
    rcases List.mem_cons.mp hw with rfl | hw
    · exact hcode
    · exact hw
  exact ⟨hBT w hb, good_of_word (List.mem_filter.mp hb).2⟩
theorem jSr_none : ∀ {a : List jV} {b : List Value}, jSr ws sb a b → jNs a = true → jSr ws none a b
  | [], [], _, _ => trivial
  | .inl _ :: _, _ :: _, h, hn => ⟨h.1, jSr_none h.2 hn⟩
  | .inr (.inl _) :: _, _ :: _, h, hn => ⟨h.1, jSr_none h.2 hn⟩
  | .inr (.inr (.inl _)) :: _, _ :: _, h, hn => ⟨h.1, jSr_none h.2 hn⟩
  | .inr (.inr (.inr (t, n, k))) :: _, _ :: _, h, hn => by
    simp only [jNs, Bool.and_eq_true] at hn
    have ht : t < 4 := by
      have := hn.1
      simp only [Nat.blt, Nat.ble_eq] at this
      omega
    refine ⟨?_, jSr_none h.2 hn.2⟩
    rcases h.1 with h1 | h1
    · exact Or.inl h1
    · exact absurd h1.1 (by omega)
theorem jSr_take : ∀ (n : Nat) {a : List jV} {b : List Value}, jSr ws sb a b → n ≤ a.length → ∃ b1 b2, b = b1 ++ b2 ∧ jSr ws sb (a.take n) b1 ∧ jSr ws sb (a.drop n) b2 ∧ b1.length = n
  | 0, a, b, h, _ => ⟨[], b, rfl, trivial, h, rfl⟩
  | n + 1, v :: a, w :: b, h, hn => by
    obtain ⟨b1, b2, e1, e2, e3, e4⟩ := jSr_take n h.2 (by simpa using hn)
    exact ⟨w :: b1, b2, by rw [e1]; rfl, ⟨h.1, e2⟩, e3, by rw [List.length_cons, e4]⟩
  | n + 1, [], b, _, hn => by simp at hn
theorem jSr_snoc : ∀ {a : List jV} {b : List Value} {v : jV} {w : Value}, jSr ws sb a b → jVr ws sb v w → jSr ws sb (a ++ [v]) (b ++ [w])
  | [], [], _, _, _, hv => ⟨hv, trivial⟩
  | _ :: _, _ :: _, _, _, h, hv => ⟨h.1, jSr_snoc h.2 hv⟩
theorem jSr_rev : ∀ {a : List jV} {b : List Value}, jSr ws sb a b → jSr ws sb a.reverse b.reverse
  | [], [], _ => trivial
  | _ :: _, _ :: _, h => by
    rw [List.reverse_cons, List.reverse_cons]
    exact jSr_snoc (jSr_rev h.2) h.1
theorem jNs_mem : ∀ {a : List jV}, (∀ t n k, jY t n k ∈ a → t < 4) → jNs a = true
  | [], _ => rfl
  | .inl _ :: a, h => jNs_mem (a := a) (fun t n k hq => h t n k (List.mem_cons_of_mem _ hq))
  | .inr (.inl _) :: a, h => jNs_mem (a := a) (fun t n k hq => h t n k (List.mem_cons_of_mem _ hq))
  | .inr (.inr (.inl _)) :: a, h => jNs_mem (a := a) (fun t n k hq => h t n k (List.mem_cons_of_mem _ hq))
  | .inr (.inr (.inr (t, n, k))) :: _, h => by
    simp only [jNs, Bool.and_eq_true]
    have := h t n k List.mem_cons_self
    exact ⟨by simp only [Nat.blt, Nat.ble_eq]; omega, jNs_mem (fun t n k hq => h t n k (List.mem_cons_of_mem _ hq))⟩
theorem jNs_of : ∀ {a : List jV}, jNs a = true → ∀ t n k, jY t n k ∈ a → t < 4
  | [], _, _, _, _, h => by cases h
  | .inl _ :: a, hn, t, n, k, h => by
    rcases List.mem_cons.mp h with h | h
    · cases h
    · exact jNs_of (a := a) hn t n k h
  | .inr (.inl _) :: a, hn, t, n, k, h => by
    rcases List.mem_cons.mp h with h | h
    · cases h
    · exact jNs_of (a := a) hn t n k h
  | .inr (.inr (.inl _)) :: a, hn, t, n, k, h => by
    rcases List.mem_cons.mp h with h | h
    · cases h
    · exact jNs_of (a := a) hn t n k h
  | .inr (.inr (.inr (t', n', k'))) :: _, hn, t, n, k, h => by
    simp only [jNs, Bool.and_eq_true] at hn
    rcases List.mem_cons.mp h with h | h
    · cases h
      have := hn.1
      simp only [Nat.blt, Nat.ble_eq] at this
      omega
    · exact jNs_of hn.2 t n k h
theorem jNs_rev {a : List jV} (h : jNs a = true) : jNs a.reverse = true := jNs_mem (fun t n k hq => jNs_of h t n k (List.mem_reverse.mp hq))
/-- behind a call -/
theorem jr_back {fuy : Bool} {y : Nat} {rest : List jV} {restR : List Value} {K : Int → jM → Prop} {gy : Int → Int} {mc ms : Nat} {aR : Array Value} (hc : jCx p R s mi args meth c A H0 Ts z fu sb g)
    (hr : va_Run p l e R s mi args below meth c H locs cells slots mc ms (F0 mi pc lsR stR) restR (jQc D fuy ws H.size gy y K aR) (va_A ws H.size)) (hfw : ∀ (w : va_W) (ty : List (ClassId × FieldType)) (q : jM), jWd fuy w ty q → jWd fu w ty q) (hrt : jRt y ≤ 3) (hmc : mc = jMc y) (hms : ms = jOf (ws.length + jMc y) - jOf ws.length)
    (hP : va_P D jVc ws H) (hD : va_D A ws) (hS : va_S A H0 H locs) (hl : jLr ws sb (jMx z) ls lsR) (hst : jSr ws sb rest restR) (hx : jEx ws0 ws) (hn : cells + n0 = ws.length ∧ slots + jOf n0 = jOf ws.length)
    (kk : ∀ (v : Int) (m' : jM), K v m' → (∀ j, m' (-2) j = gy j) → (∃ (w : va_W) (ty : List (ClassId × FieldType)), jWd fuy w ty m') → ∃ m'', (∀ q j : Int, q ≠ -2 → m'' q j = m' q j) ∧ (∀ j, m'' (-2) j = g j) ∧ jP p l e R s mi args below meth c Qf D A H0 z fu sb g n0 ws0 (pc + 3) ls (jPush (jRt y) v rest) m'')
    (hbd : ∀ (ws' : va_W) (m'' : jM), ws'.length = ws.length + jMc y → (∀ j, m'' (-2) j = g j) → jBd R z n0 ws' m'' (cells + mc) (slots + ms)) :
    W p l e R s mi args below meth c H locs cells slots Qf (F0 mi pc lsR stR) := by
  intro T hT X
  obtain ⟨v, st₀, t, T', L, h0, X', hL, e1, e2, ⟨⟨rv, m', ws', tys', hK, hoc, hW', hP', hK', hD', hx', hg', hlen'⟩, hF⟩, hst'⟩ := hr T hT X
  obtain ⟨hz, hk⟩ := hF
  rw [h0] at hz hk
  obtain ⟨m'', g1, g2, hX⟩ := kk rv m' hK hg' ⟨ws', tys', hW'⟩
  have hA := hc.2.2.2.2.2.2.2.2.1
  have hAA : ∀ q, va_A ws H.size q → A q := by
    rintro q (⟨k, ee, hk⟩ | hk)
    · exact hD.2 k (q, ee) hk
    · exact hA q (Nat.le_trans hS.1 hk)
  have hS1 : va_S A H0 T'.heap (locs ++ L) := ⟨Nat.le_trans hS.1 (by rw [e1]; exact hz), fun q h1 h2 => by rw [e1, hk q (Nat.lt_of_lt_of_le h1 hS.1) (fun zz => h2 (hAA q zz))]; exact hS.2.1 q h1 h2, fun q hq => by
      rcases List.mem_append.mp hq with h | h
      · exact hS.2.2 q h
      · exact hAA _ (hL q h)⟩
  have hvm : s.vm.Alike t.vm := by rw [← e2]; exact X'.warmed.alike
  have hW2 : jWd fu ws' tys' m'' := by
    obtain ⟨w1, w2, w3, w4⟩ := hfw _ _ _ hW'
    exact ⟨by rw [g1 _ _ (by omega)]; exact w1, w2, w3, fun k a ee hk => jEn_same (jEx_rf _) (fun _ _ q => q) (fun j => g1 _ _ (by omega)) (w4 k a ee hk)⟩
  have hrel : ∀ (stR' : List Value), jSr ws' sb (jPush (jRt y) rv rest) stR' → jRel R s D A H0 z fu sb g n0 ws0 T'.heap (locs ++ L) (cells + mc) (slots + ms) ws' tys' lsR stR' ls (jPush (jRt y) rv rest) m'' := fun stR' hs' =>
    ⟨⟨by rw [e1]; exact hP', hD'.weaken (fun _ q _ h => hAA q.1 h), va_K.moved hvm.symm hK', hS1, hW2⟩, jLr_ex hx' hl, hs', g2, hbd ws' m'' hlen' g2, jEx_tr hx hx'⟩
  have hsr := jSr_ex hx' hst
  have hcases : jRt y = 0 ∨ jRt y = 1 ∨ jRt y = 2 ∨ jRt y = 3 := by omega
  rcases hcases with hq | hq | hq | hq
  · rw [hq] at hoc hX hrel
    cases (show Outcome.returned v = .returned none from hoc)
    obtain ⟨t2, a1, b1⟩ := hX _ _ _ _ _ _ _ _ (hrel restR hsr) T' rfl X'
    exact ⟨t2, hst' t2 a1, b1⟩
  · rw [hq] at hoc hX hrel
    obtain ⟨x, hv, hx2⟩ := hoc
    cases hv
    obtain ⟨t2, a1, b1⟩ := hX _ _ _ _ _ _ _ _ (hrel (.int x :: restR) ⟨⟨x, rfl, hx2⟩, hsr⟩) T' rfl X'
    exact ⟨t2, hst' t2 a1, b1⟩
  · rw [hq] at hoc hX hrel
    obtain ⟨x, hv, hx2⟩ := hoc
    cases hv
    obtain ⟨t2, a1, b1⟩ := hX _ _ _ _ _ _ _ _ (hrel (.long x :: restR) ⟨⟨x, rfl, hx2⟩, hsr⟩) T' rfl X'
    exact ⟨t2, hst' t2 a1, b1⟩
  · rw [hq] at hoc hX hrel
    obtain ⟨x, hv, hx2⟩ := hoc
    cases hv
    obtain ⟨t2, a1, b1⟩ := hX _ _ _ _ _ _ _ _ (hrel (.int x :: restR) ⟨⟨x, rfl, hx2⟩, hsr⟩) T' rfl X'
    exact ⟨t2, hst' t2 a1, b1⟩
end CALL
/-! the world that is complete, and the one that isn't yet -/
theorem jFv_weak {ws : va_W} {k : Int} {f : Nat} {a : Int} {v : Value} (h : jFv true ws k f a v) : jFv false ws k f a v := by
  rcases h with g | g | ⟨g0, g | g⟩ | ⟨g0, g | g⟩
  · exact Or.inl g
  · exact Or.inr (Or.inl g)
  · cases g.1
  · exact Or.inr (Or.inr (Or.inl ⟨g0, Or.inr g⟩))
  · cases g.1
  · exact Or.inr (Or.inr (Or.inr ⟨g0, Or.inr g⟩))
theorem jWd_weak {ws : va_W} {tys : List (ClassId × FieldType)} {m : jM} (h : jWd true ws tys m) : jWd false ws tys m := by
  obtain ⟨h1, h2, h3, h4⟩ := h
  refine ⟨h1, h2, fun z => (by cases z), fun k a e hk => ?_⟩
  rcases h4 k a e hk with ⟨g0, vs, g1, g2, g3⟩ | g | g | ⟨g0, cA, f, t0, g1, g2, g3⟩
  · refine Or.inl ⟨g0, vs, g1, g2, fun j hj => ?_⟩
    obtain ⟨v, q1, q2⟩ := g3 j hj
    exact ⟨v, q1, jFv_weak q2⟩
  · exact Or.inr (Or.inl g)
  · exact Or.inr (Or.inr (Or.inl g))
  · refine Or.inr (Or.inr (Or.inr ⟨g0, cA, f, t0, g1, g2, fun j hj => ?_⟩))
    rcases g3 j hj with q | q
    · cases q.1
    · exact Or.inr q
theorem jFin_all : jFin.all (fun q => decide (0 ≤ q.1 ∧ q.1 < 160 ∧ 0 ≤ q.2.1 ∧ jKd q.1 < 12 ∧ q.2.1.toNat < jNf (jKd q.1) ∧ (jFg (jFf (jKd q.1) q.2.1.toNat) = 3 ∨ jFg (jFf (jKd q.1) q.2.1.toNat) = 4) ∧ q.2.2 = q.1 + jFo (jFf (jKd q.1) q.2.1.toNat))) = true := by decide +kernel
theorem jMut_all : jMut.all (fun q => decide (0 ≤ q.1 ∧ q.1 < 160 ∧ 0 ≤ q.2.1 ∧ ((jKd q.1 < 12 ∧ q.2.1.toNat < jNf (jKd q.1) ∧ jFg (jFf (jKd q.1) q.2.1.toNat) = 5 ∧ q.2.2 = jFt (jFf (jKd q.1) q.2.1.toNat)) ∨ ((jKd q.1 = 22 ∨ jKd q.1 = 23) ∧ q.2.1.toNat < (jLn q.1).toNat ∧ q.2.2 = jKd q.1 - 16)))) = true := by decide +kernel
theorem jFin_has : (List.range 160).all (fun k => if jKd k < 12 then (List.range (jNf (jKd k))).all (fun j => decide (((jFg (jFf (jKd k) j) = 3 ∨ jFg (jFf (jKd k) j) = 4) → ((k : Int), (j : Int), (k : Int) + (jFo (jFf (jKd k) j) : Int)) ∈ jFin) ∧ (jFg (jFf (jKd k) j) = 5 → ((k : Int), (j : Int), jFt (jFf (jKd k) j)) ∈ jMut))) else if jKd k = 22 ∨ jKd k = 23 then (List.range (jLn k).toNat).all (fun j => decide (((k : Int), (j : Int), jKd k - 16) ∈ jMut)) else true) = true := by decide +kernel
theorem jWd_isFull {ws : va_W} {tys : List (ClassId × FieldType)} {m : jM} (h : jWd true ws tys m) : jFull m := by
  obtain ⟨h1, h2, h3, h4⟩ := h
  have hl := h3 rfl
  have cell : ∀ k : Int, 0 ≤ k → k < 160 → ∃ e, jEn true ws tys k.toNat m e := by
    intro k hk hk2
    have hlt : k.toNat < ws.length := by omega
    exact ⟨_, h4 k.toNat ws[k.toNat].1 ws[k.toNat].2 (List.getElem?_eq_getElem hlt)⟩
  refine ⟨by rw [h1, hl]; rfl, fun q hq => ?_, fun q hq => ?_⟩
  · obtain ⟨a1, a2, a3, a4, a5, a6, a7⟩ := of_decide_eq_true (List.all_eq_true.mp jFin_all q hq)
    obtain ⟨e, he⟩ := cell q.1 a1 a2
    have e1 : (q.1.toNat : Int) = q.1 := by omega
    have e2 : (q.2.1.toNat : Int) = q.2.1 := by omega
    unfold jEn at he
    rw [e1] at he
    rcases he with ⟨g0, vs, g1, g2, g3⟩ | ⟨g0, -⟩ | ⟨g0, -⟩ | ⟨g0, -⟩
    · obtain ⟨v, q1, q2⟩ := g3 q.2.1.toNat a5
      rw [e2] at q2
      rcases q2 with ⟨o, -⟩ | ⟨o, -⟩ | ⟨-, o | o⟩ | ⟨o, -⟩
      · omega
      · omega
      · cases o.1
      · rw [o.1, a7]
      · omega
    · omega
    · omega
    · omega
  · obtain ⟨a1, a2, a3, a4⟩ := of_decide_eq_true (List.all_eq_true.mp jMut_all q hq)
    obtain ⟨e, he⟩ := cell q.1 a1 a2
    have e1 : (q.1.toNat : Int) = q.1 := by omega
    have e2 : (q.2.1.toNat : Int) = q.2.1 := by omega
    have fin : ∀ {u : Nat}, jRf ws (m q.1 q.2.1) u → 0 ≤ m q.1 q.2.1 ∧ m q.1 q.2.1 < 160 := by
      rintro u ⟨u1, e', u2⟩
      have := (List.getElem?_eq_some_iff.mp u2).1
      omega
    unfold jEn at he
    rw [e1] at he
    rcases a4 with ⟨a4, a5, a6, a7⟩ | ⟨a4, a5, a6⟩
    · rcases he with ⟨g0, vs, g1, g2, g3⟩ | ⟨g0, -⟩ | ⟨g0, -⟩ | ⟨g0, -⟩
      · obtain ⟨v, q1, q2⟩ := g3 q.2.1.toNat a5
        rw [e2] at q2
        rcases q2 with ⟨o, -⟩ | ⟨o, -⟩ | ⟨o, -⟩ | ⟨-, o | ⟨o1, u, o2, o3⟩⟩
        · omega
        · omega
        · omega
        · cases o.1
        · exact ⟨(fin o3).1, (fin o3).2, by rw [o1, a7]⟩
      · omega
      · omega
      · omega
    · rcases he with ⟨g0, -⟩ | ⟨g0, -⟩ | ⟨g0, -⟩ | ⟨g0, cA, f, t0, g1, g2, g3⟩
      · omega
      · omega
      · omega
      · have := g3 q.2.1.toNat a5
        rw [e2] at this
        rcases this with o | ⟨o1, u, o2, o3⟩
        · cases o.1
        · exact ⟨(fin o3).1, (fin o3).2, by rw [o1, a6]⟩
theorem jFull_wd {ws : va_W} {tys : List (ClassId × FieldType)} {m : jM} (h : jWd false ws tys m) (hf : jFull m) : jWd true ws tys m := by
  obtain ⟨h1, h2, h3, h4⟩ := h
  obtain ⟨f1, f2, f3⟩ := hf
  have hl : ws.length = 160 := by omega
  refine ⟨h1, h2, fun _ => hl, fun k a e hk => ?_⟩
  have hlt : k < 160 := by
    have := (List.getElem?_eq_some_iff.mp hk).1
    omega
  have hh := List.all_eq_true.mp jFin_has k (List.mem_range.mpr hlt)
  rcases h4 k a e hk with ⟨g0, vs, g1, g2, g3⟩ | g | g | ⟨g0, cA, f, t0, g1, g2, g3⟩
  · rw [if_pos g0] at hh
    refine Or.inl ⟨g0, vs, g1, g2, fun j hj => ?_⟩
    obtain ⟨v, q1, q2⟩ := g3 j hj
    obtain ⟨p1, p2⟩ := of_decide_eq_true (List.all_eq_true.mp hh j (List.mem_range.mpr hj))
    refine ⟨v, q1, ?_⟩
    rcases q2 with o | o | ⟨o0, ⟨-, o1, o2⟩ | o⟩ | ⟨o0, ⟨-, o1, o2⟩ | o⟩
    · exact Or.inl o
    · exact Or.inr (Or.inl o)
    · have := f2 _ (p1 o0)
      dsimp only at this
      omega
    · exact Or.inr (Or.inr (Or.inl ⟨o0, Or.inr o⟩))
    · have := f3 _ (p2 o0)
      dsimp only at this
      omega
    · exact Or.inr (Or.inr (Or.inr ⟨o0, Or.inr o⟩))
  · exact Or.inr (Or.inl g)
  · exact Or.inr (Or.inr (Or.inl g))
  · rw [if_neg (by omega), if_pos g0] at hh
    refine Or.inr (Or.inr (Or.inr ⟨g0, cA, f, t0, g1, g2, fun j hj => ?_⟩))
    have p1 := of_decide_eq_true (List.all_eq_true.mp hh j (List.mem_range.mpr hj))
    rcases g3 j hj with ⟨-, o1, o2⟩ | o
    · have := f3 _ p1
      dsimp only at this
      omega
    · exact Or.inr o
