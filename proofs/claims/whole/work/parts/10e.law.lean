/-! THE CLAIM OUT OF ONE WALK OF THE LAW'S BODY. Your part is whole_start (and what it stands on); all else here is the same for every law, but numbers. -/
def R_law : String := "CourtMatcherLaw"
def lw_P (b : Addr) (xs : List Int32) (args : Array Value) (s : State) : Prop := args = #[.ref b] ∧ s.IntsAt b xs ∧ xs.length ≤ 3072 ∧ (Jvm.Cond.and given_1 narrow_1).before args s = true
def lw_Q (_ : Array Value) (s : State) (o : Outcome) (t : State) : Prop := o = .returned (some (.int 1)) ∧ Framed s o t [] 600000 7302250
def lw_Z (below : List Frame) (a : Array Value) (s : State) : State → Prop := fun t => ∃ o, t.status = .running ∧ Ended t below o ∧ lw_Q a s o t
/-- the law's own end, with 1 on the stack, nothing written that was there before, its room as the claim has it -/
theorem lw_ret {p : Program} {l : Launch} {e : Env} {s : State} {m : MethodId} {below : List Frame} {meth : Method} {c : Code} {b : Nat} (hx : p.tables.exec = Jvm.exec) (hb : c.code = code) (hr : meth.sig.returnType = ret) (hlocks : meth.locks = false) {pc : Nat} {H : Heap} {ls : Array Slot} (hdg : decode code pc = .ok (.ireturn, 1)) : W p l e room_1 s m #[Value.ref b] below meth c H [] 600000 7302250 (lw_Z below #[Value.ref b] s) (F0 m pc ls [.int 1]) := by
  intro T hT X
  obtain ⟨fs, hret, hrun, hended, hW, hframe⟩ := X.leave (v := some (.int 1)) (hlocks := hlocks) (fun h => by rw [hr] at h; cases h)
  have hmeth' : T.vm.method? m = some meth := X.method'
  refine ⟨T.setFrames fs, ?_, .returned (some (.int 1)), hrun, hended, rfl, ⟨_, rfl⟩, hW, hframe⟩
  jvm_step X.here [X.here.top, hx, hb, hdg, hmeth', hr, ret, narrow_b1]
  (try refine ⟨rfl, ?_⟩); (try refine ⟨rfl, ?_⟩)
  first | (intro acts; rw [hret _ acts rfl rfl rfl]) | rw [hret _ _ rfl rfl rfl]
  exact Steps.refl _
/-- what holds at the law's entry: the machine, the code, the tables' words (any of lw_tbl by 'hts w (by decide +kernel)'), the script of L ints xs at the cell b, what the Statement gives of the start (any of its parts by flat_of_before) -/
def lw_At (p : Program) (s : State) (m : MethodId) (meth : Method) (c : Code) (b L : Nat) (xs : Nat → Int32) : Prop :=
  p.tables.exec = Jvm.exec ∧ c.code = code ∧ meth.sig.returnType = ret ∧ c.maxLocals = 4 ∧ s.vm.findClass R_law = some m.cls ∧ (∀ w ∈ lw_tbl, w.before #[Value.ref b] s = true) ∧ va_X b L xs s s.heap ∧ b < s.heap.size ∧ meth.locks = false ∧ (Jvm.Cond.and given_1 narrow_1).before #[Value.ref b] s = true
/-! the law's frame: the abstract run of the law gives its walk -/
theorem jAll30 {own : Nat} {cc : ByteArray} {l : List (Nat × Instr × Nat)} (n : Nat) (hn : l.length ≤ 30 * n) (h : ∀ k, k < n → jChk own cc ((l.drop (30 * k)).take 30) = true) : jChk own cc l = true := by
  refine List.all_eq_true.mpr fun q hq => ?_
  obtain ⟨i, hi⟩ := List.getElem?_of_mem hq
  have hlt : i < l.length := (List.getElem?_eq_some_iff.mp hi).1
  refine List.all_eq_true.mp (h (i / 30) (by omega)) q (List.mem_of_getElem? (i := i % 30) ?_)
  rw [List.getElem?_take, if_pos (by omega), List.getElem?_drop, show 30 * (i / 30) + i % 30 = i by omega]
  exact hi
theorem jcL_len : jcL_law.length ≤ 30 * 36 := by decide +kernel
theorem jDc_law : jDc zL_law := by
  refine jAll30 (own := 12) (cc := cL_law) (l := jcL_law) 36 jcL_len (fun k hk => ?_)
  have h36 : k = 0 ∨ k = 1 ∨ k = 2 ∨ k = 3 ∨ k = 4 ∨ k = 5 ∨ k = 6 ∨ k = 7 ∨ k = 8 ∨ k = 9 ∨ k = 10 ∨ k = 11 ∨ k = 12 ∨ k = 13 ∨ k = 14 ∨ k = 15 ∨ k = 16 ∨ k = 17 ∨ k = 18 ∨ k = 19 ∨ k = 20 ∨ k = 21 ∨ k = 22 ∨ k = 23 ∨ k = 24 ∨ k = 25 ∨ k = 26 ∨ k = 27 ∨ k = 28 ∨ k = 29 ∨ k = 30 ∨ k = 31 ∨ k = 32 ∨ k = 33 ∨ k = 34 ∨ k = 35 := by omega
  rcases h36 with rfl | rfl | rfl | rfl | rfl | rfl | rfl | rfl | rfl | rfl | rfl | rfl | rfl | rfl | rfl | rfl | rfl | rfl | rfl | rfl | rfl | rfl | rfl | rfl | rfl | rfl | rfl | rfl | rfl | rfl | rfl | rfl | rfl | rfl | rfl | rfl
  · exact jdL_law_0
  · exact jdL_law_1
  · exact jdL_law_2
  · exact jdL_law_3
  · exact jdL_law_4
  · exact jdL_law_5
  · exact jdL_law_6
  · exact jdL_law_7
  · exact jdL_law_8
  · exact jdL_law_9
  · exact jdL_law_10
  · exact jdL_law_11
  · exact jdL_law_12
  · exact jdL_law_13
  · exact jdL_law_14
  · exact jdL_law_15
  · exact jdL_law_16
  · exact jdL_law_17
  · exact jdL_law_18
  · exact jdL_law_19
  · exact jdL_law_20
  · exact jdL_law_21
  · exact jdL_law_22
  · exact jdL_law_23
  · exact jdL_law_24
  · exact jdL_law_25
  · exact jdL_law_26
  · exact jdL_law_27
  · exact jdL_law_28
  · exact jdL_law_29
  · exact jdL_law_30
  · exact jdL_law_31
  · exact jdL_law_32
  · exact jdL_law_33
  · exact jdL_law_34
  · exact jdL_law_35
/-- the memory at the law's start: the script, nothing made, 160 cells to make -/
def jM0 (xs : Nat → Int32) : jM := fun k i => if k = -2 then (if i = -7 then 160 else if 0 ≤ i then (xs i.toNat).toInt else 0) else 0
/-- what is to be shown of the abstract run -/
def jLaw : Prop := ∀ (L : Nat) (xs : Nat → Int32), L ≤ 3072 → jK 1000 zL_law [jY 4 (L : Int) (-2)] (jM0 xs) (fun v _ => v = 1)
theorem jNests_tbl : ∀ w ∈ jNests, w ∈ lw_tbl := by
  intro w hw
  obtain ⟨i, hi⟩ := List.getElem?_of_mem hw
  have hlt : i < jNests.length := (List.getElem?_eq_some_iff.mp hi).1
  have hlt2 : i < jNestP.length := by rw [← jNest_all.2]; exact hlt
  have hz : (jNests.zip jNestP)[i]? = some (w, jNestP[i]) := by
    rw [List.getElem?_zip_eq_some]
    exact ⟨hi, List.getElem?_eq_getElem hlt2⟩
  exact jHas_mem (List.all_eq_true.mp jNest_all.1 _ (List.mem_of_getElem? hz))
theorem jOf_160 : jOf 160 = 18774 := by decide +kernel
theorem jOf_le {n : Nat} (h : n ≤ 160) : jOf n ≤ 18774 := by
  have := @jOf_mono n 160 h
  rw [jOf_160] at this
  exact this
set_option maxHeartbeats 4000000 in
theorem whole_from (habs : jLaw) {p : Program} {e : Env} {s : State} {m : MethodId} {below : List Frame} {meth : Method} {c : Code} (l : Launch) {b L : Nat} {xs : Nat → Int32} (hL : L ≤ 3072) (C0 : lw_At p s m meth c b L xs) : W p l e room_1 s m #[Value.ref b] below meth c s.heap [] 0 0 (lw_Z below #[Value.ref b] s) (entryFrame m ([Value.ref b] : List Value).toArray 4) := by
  obtain ⟨hx, hb, hr, hml, hown, hts, hX, hbl, hlocks, hgv⟩ := C0
  have hBW : ∀ w ∈ jBW, w ∈ lw_tbl := fun w h => (List.mem_filter.mp h).1
  have hkn : ∀ k : Nat, ∃ q : ClassId × (Nat → Nat), k < 12 → u_Kn s (jRn k) (jTc k) (jNf k) q.1 q.2 := by
    intro k
    by_cases hk : k < 12
    · obtain ⟨cC, iS, h⟩ := u_known (C := jRn k) (T := jTc k) (N := jNf k) (n := jNf k) hts (fun w hw => hBW _ (jLay_in hk w hw)) (hts _ (hBW _ (jIns_ok hk).1))
      exact ⟨(cC, iS), fun _ => h⟩
    · exact ⟨(0, fun _ => 0), fun h => absurd h hk⟩
  obtain ⟨D, hD⟩ : ∃ D : va_G, ∀ k : Nat, k < 12 → u_Kn s (jRn k) (jTc k) (jNf k) (D.1 k) (D.2 k) :=
    ⟨(fun k => (Classical.choose (hkn k)).1, fun k => (Classical.choose (hkn k)).2), fun k hk => Classical.choose_spec (hkn k) hk⟩
  have hK : va_K D jVc [] s := by
    refine ⟨fun k q hq => ?_, fun k q h => by simp at h⟩
    have hk : k < 12 := by
      have := (List.getElem?_eq_some_iff.mp hq).1
      exact this
    rw [jVc_at hk] at hq
    cases hq
    exact hD k hk
  have hodd := jOdd_all
  simp only [Bool.and_eq_true] at hodd
  obtain ⟨⟨-, a8⟩, a9⟩ := hodd
  have hAO6 : va_AO RX6 s := va_AO.of (hts _ (jHas_mem a8))
  have hAO7 : va_AO RX7 s := va_AO.of (hts _ (jHas_mem a9))
  have hc : jCx p room_1 s m #[Value.ref b] meth c (fun q => s.heap.size ≤ q) s.heap lw_tbl zL_law false (some (b, L)) (fun j => jM0 xs (-2) j) := by
    refine ⟨hx, hb, hml, hown, hts, hBW, fun w hw => va_Nw.of (jNests_all w hw).2 (hts _ (jNests_tbl w hw)), ⟨hAO6, hAO7⟩, fun _ h => h, ⟨Nat.le_of_ble_eq_true rfl, Nat.le_of_ble_eq_true rfl⟩, fun h => absurd h (by decide), fun _ => ⟨rfl, Or.inr (by decide)⟩, ?_⟩
    intro b' L' h
    cases h
    refine ⟨by omega, xs, hX, hbl, Nat.not_le.mpr hbl, fun j hj => ?_⟩
    show jM0 xs (-2) (j : Int) = _
    unfold jM0
    rw [if_pos rfl, if_neg (by omega), if_pos (by omega)]
    rfl
  have hE : jEnds p l e room_1 s m #[Value.ref b] below meth c (lw_Z below #[Value.ref b] s) D (fun q => s.heap.size ≤ q) s.heap zL_law false (some (b, L)) (fun j => jM0 xs (-2) j) 0 [] (fun v _ => v = 1) := by
    refine ⟨fun pc H locs cells slots ws tys lsR ls m' x hd hrt hrel hret => ?_, fun pc H locs cells slots ws tys lsR ls m' x hd hrt hrel hret => absurd hrt (by decide), fun pc H locs cells slots ws tys lsR ls m' hd hrt hrel hret => absurd hrt (by decide)⟩
    have h1 : x.toInt = 1 := hret.2
    have hx1 : x = 1 := jn_eq.mpr (by rw [h1]; decide)
    subst hx1
    obtain ⟨⟨r1, r2, r3, r4, r5⟩, -, -, r8, ⟨b1, b2, b3, b4⟩, r10⟩ := hrel
    have hws := r5.2.1
    have hof := jOf_le hws
    refine va_forget (fun q hq => r4.2.2 q hq) ?_
    refine W.widen (k := 600000) (n := 7302250) ?_ ?_ (lw_ret hx hb hr hlocks hd)
    · exact Nat.le_trans (show cells ≤ 160 by omega) (Nat.le_of_ble_eq_true rfl)
    · have h0 : jOf 0 = 0 := rfl
      exact Nat.le_trans (show slots ≤ 18774 by omega) (Nat.le_of_ble_eq_true rfl)
  rw [lg_entry_eq]
  refine jFrame (d := 1000) hc ⟨Nat.le_of_ble_eq_true rfl, Nat.le_of_ble_eq_true rfl⟩ (fun e0 _ y a m K hy hyl hk => jSound l e0 y a m K hy hyl hk) hE (by decide) (by decide) jDc_law (habs L xs hL) _ _ _ _ _ [] _ _ ⟨⟨fun k q h => by simp at h, ⟨fun i j p q h => by simp at h, fun k q h => by simp at h⟩, hK, va_S.rf, ?_⟩, jEnt_lr (b := [.ref b]) ⟨Or.inr ⟨rfl, b, L, rfl, rfl, rfl, rfl⟩, trivial⟩ (Nat.le_of_ble_eq_true rfl), trivial, fun _ => rfl, ?_, jEx_rf []⟩
  · exact ⟨rfl, Nat.le_of_ble_eq_true rfl, (fun h => by cases h), (fun k a e h => by simp at h)⟩
  · refine ⟨rfl, rfl, fun _ => ⟨rfl, Nat.le_of_ble_eq_true rfl, ?_, Nat.le_of_ble_eq_true rfl, Nat.le_of_ble_eq_true rfl⟩, fun h => absurd (by decide) h⟩
    show jOf 160 ≤ _
    rw [jOf_160]
    exact Nat.le_of_ble_eq_true rfl
