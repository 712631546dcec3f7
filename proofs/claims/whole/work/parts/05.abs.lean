/-! the abstract run: its laws, and that a piece (jWp) gives a run -/
theorem jCal_mono {z y : Nat} {C C' : Nat → List jV → jM → (Int → jM → Prop) → Prop} {args : List jV} {m : jM} {K K' : Int → jM → Prop} (hC : ∀ y a m K K', (∀ v m, K v m → K' v m) → C y a m K → C' y a m K') (hK : ∀ v m, K v m → K' v m) (h : jCal z y C args m K) : jCal z y C' args m K' := by
  unfold jCal at h ⊢
  split at h
  · exact hC _ _ _ _ _ hK h
  · exact hC _ _ _ _ _ hK h
  · exact hC _ _ _ _ _ hK h
  · exact ⟨h.1, hC _ _ _ _ _ (fun v m' g f => hK _ _ (g f)) h.2⟩
  · exact ⟨h.1, hC _ _ _ _ _ (fun v m' g => hK _ _ g) h.2⟩
  · exact h
theorem jRet_mono {z : Nat} {v : Int} {m : jM} {Q Q' : Int → jM → Prop} (hQ : ∀ v m, Q v m → Q' v m) (h : jRet z v m Q) : jRet z v m Q' := by
  unfold jRet at h ⊢
  split
  · rename_i e
    rw [e] at h
    exact ⟨h.1, hQ _ _ h.2⟩
  · rename_i e
    split at h
    · exact absurd ‹_› e
    · split
      · rename_i e3
        rw [if_pos e3] at h
        split
        · rename_i e4
          rw [if_pos e4] at h
          exact hQ _ _ h
        · rename_i e4
          rw [if_neg e4] at h
          exact h
      · rename_i e3
        rw [if_neg e3] at h
        exact hQ _ _ h
theorem jStp_mono {z : Nat} {C C' : Nat → List jV → jM → (Int → jM → Prop) → Prop} {X X' : Nat → jS → List jV → jM → Prop} {Q Q' : Int → jM → Prop} {pc len : Nat} {ls : jS} {m : jM} {e : Option jE}
    (hC : ∀ y a m K K', (∀ v m, K v m → K' v m) → C y a m K → C' y a m K') (hX : ∀ p l s m, X p l s m → X' p l s m) (hQ : ∀ v m, Q v m → Q' v m) (h : jStp z C X Q pc len ls m e) : jStp z C' X' Q' pc len ls m e := by
  match e, h with
  | some (.inl (p, l, s, m')), h => exact hX _ _ _ _ h
  | some (.inr (.inl (c, p, l, s, m'))), h => exact ⟨h.1, hX _ _ _ _ h.2⟩
  | some (.inr (.inr (.inl (c, p1, p2, s)))), h => exact ⟨fun g => hX _ _ _ _ (h.1 g), fun g => hX _ _ _ _ (h.2 g)⟩
  | some (.inr (.inr (.inr (.inl (l, s))))), h =>
    simp only [jStp] at h ⊢
    induction l with
    | nil => trivial
    | cons a l ih => exact ⟨fun g => hX _ _ _ _ (h.1 g), ih h.2⟩
  | some (.inr (.inr (.inr (.inr (.inl (y, args, s)))))), h => exact jCal_mono hC (fun v m' g => hX _ _ _ _ g) h
  | some (.inr (.inr (.inr (.inr (.inr v))))), h => exact jRet_mono hQ h
theorem jAt_mono {z : Nat} {C C' : Nat → List jV → jM → (Int → jM → Prop) → Prop} {X X' : Nat → jS → List jV → jM → Prop} {Q Q' : Int → jM → Prop} {pc : Nat} {ls : jS} {st : List jV} {m : jM}
    (hC : ∀ y a m K K', (∀ v m, K v m → K' v m) → C y a m K → C' y a m K') (hX : ∀ p l s m, X p l s m → X' p l s m) (hQ : ∀ v m, Q v m → Q' v m) (h : jAt z C X Q pc ls st m) : jAt z C' X' Q' pc ls st m := by
  unfold jAt at h ⊢
  cases hi : jIns z pc with
  | none => rw [hi] at h; exact h
  | some q =>
    obtain ⟨ai, len⟩ := q
    rw [hi] at h
    exact jStp_mono hC hX hQ h
theorem jA_eq (d z pc : Nat) (ls : jS) (st : List jV) (m : jM) (Q : Int → jM → Prop) : jA d z pc ls st m Q = ∀ P : Nat → jS → List jV → jM → Prop, jClo z (jCa d) Q P → P pc ls st m := by
  cases d with
  | zero => rfl
  | succ d => rfl
/-- steps, where the callees' ends may be widened -/
theorem jA_step' {d : Nat} (hm : ∀ y a m K K', (∀ v m, K v m → K' v m) → jCa d y a m K → jCa d y a m K') {z pc : Nat} {ls : jS} {st : List jV} {m : jM} {Q : Int → jM → Prop} (h : jAt z (jCa d) (fun pc ls st m => jA d z pc ls st m Q) Q pc ls st m) : jA d z pc ls st m Q := by
  rw [jA_eq]
  intro P hP
  refine hP.1 _ _ _ _ (jAt_mono hm (fun p l s m g => ?_) (fun _ _ g => g) h)
  rw [jA_eq] at g
  exact g P hP
theorem jA_weak {d z pc : Nat} {l0 ls : jS} {st : List jV} {m : jM} {Q : Int → jM → Prop} (hl : jLe l0 ls) (h : jA d z pc l0 st m Q) : jA d z pc ls st m Q := by
  rw [jA_eq] at h ⊢
  intro P hP
  exact hP.2 _ _ _ _ _ hl (h P hP)
theorem jA_mono' {d : Nat} (hm : ∀ y a m K K', (∀ v m, K v m → K' v m) → jCa d y a m K → jCa d y a m K') {z pc : Nat} {ls : jS} {st : List jV} {m : jM} {Q Q' : Int → jM → Prop} (hQ : ∀ v m, Q v m → Q' v m) (h : jA d z pc ls st m Q) : jA d z pc ls st m Q' := by
  rw [jA_eq] at h
  refine h (fun pc ls st m => jA d z pc ls st m Q') ⟨fun pc ls st m g => jA_step' hm (jAt_mono hm (fun _ _ _ _ g => g) hQ g), fun pc l0 ls st m hl g => jA_weak hl g⟩
theorem jCa_mono (d : Nat) : ∀ y a m K K', (∀ v m, K v m → K' v m) → jCa d y a m K → jCa d y a m K' := by
  induction d with
  | zero => intro y a m K K' _ h; exact h
  | succ d ih => intro y a m K K' hK h; exact jA_mono' ih hK h
theorem jA_mono {d z pc : Nat} {ls : jS} {st : List jV} {m : jM} {Q Q' : Int → jM → Prop} (hQ : ∀ v m, Q v m → Q' v m) (h : jA d z pc ls st m Q) : jA d z pc ls st m Q' := jA_mono' (jCa_mono d) hQ h
theorem jK_mono {d z : Nat} {args : List jV} {m : jM} {Q Q' : Int → jM → Prop} (hQ : ∀ v m, Q v m → Q' v m) (h : jK d z args m Q) : jK d z args m Q' := jA_mono hQ h
theorem jA_step {d z pc : Nat} {ls : jS} {st : List jV} {m : jM} {Q : Int → jM → Prop} (h : jAt z (jCa d) (fun pc ls st m => jA d z pc ls st m Q) Q pc ls st m) : jA d z pc ls st m Q := jA_step' (jCa_mono d) h
/-- more depth does no harm -/
theorem jA_deep (d : Nat) : ∀ {z pc : Nat} {ls : jS} {st : List jV} {m : jM} {Q : Int → jM → Prop}, jA d z pc ls st m Q → jA (d + 1) z pc ls st m Q := by
  induction d with
  | zero =>
    intro z pc ls st m Q h
    rw [jA_eq] at h
    refine h (fun pc ls st m => jA 1 z pc ls st m Q) ⟨fun pc ls st m g => jA_step (jAt_mono (fun y a m K K' _ f => absurd f id) (fun _ _ _ _ g => g) (fun _ _ g => g) g), fun pc l0 ls st m hl g => jA_weak hl g⟩
  | succ d ih =>
    intro z pc ls st m Q h
    rw [jA_eq] at h
    refine h (fun pc ls st m => jA (d + 2) z pc ls st m Q) ⟨fun pc ls st m g => jA_step (jAt_mono (fun y a m K K' hK f => jK_mono hK (ih f)) (fun _ _ _ _ g => g) (fun _ _ g => g) g), fun pc l0 ls st m hl g => jA_weak hl g⟩
theorem jK_deep {d e z : Nat} {args : List jV} {m : jM} {Q : Int → jM → Prop} (he : d ≤ e) (h : jK d z args m Q) : jK e z args m Q := by
  induction he with
  | refl => exact h
  | step _ ih => exact jA_deep _ ih
theorem jMask_le (b : List Bool) (l : jS) : jLe (jMask b l) l := by
  induction b generalizing l with
  | nil => exact ⟨by cases l <;> rfl, fun i v h => by cases l <;> exact h⟩
  | cons a b ih =>
    cases l with
    | nil => cases a <;> exact ⟨rfl, fun i v h => h⟩
    | cons x l =>
      obtain ⟨h1, h2⟩ := ih l
      cases a with
      | true =>
        refine ⟨by simp [jMask, h1], fun i v h => ?_⟩
        cases i with
        | zero => exact h
        | succ i => exact h2 i v h
      | false =>
        refine ⟨by simp [jMask, h1], fun i v h => ?_⟩
        cases i with
        | zero => simp [jMask] at h
        | succ i => exact h2 i v h
theorem jFor_eq {β : Type} (l : jS) : ∀ (k : jS → β), jFor l k = k l := by
  induction l with
  | nil => intro k; rfl
  | cons a l ih => intro k; exact ih _
theorem jForP_eq (l : jS) : ∀ (k : jS → Prop), jForP l k = k l := by
  induction l with
  | nil => intro k; rfl
  | cons a l ih => intro k; exact ih _
def jSorted : List (Nat × Instr × Nat) → Bool
  | [] => true
  | [_] => true
  | a :: b :: l => Nat.blt a.1 b.1 && jSorted (b :: l)
theorem jSorted_all : jCodes.all jSorted = true := by decide +kernel
theorem jSorted_code (i : Nat) : jSorted (jCode i) = true := by
  unfold jCode
  rw [List.getD_eq_getElem?_getD]
  cases h : jCodes[i]? with
  | none => rfl
  | some c => exact List.all_eq_true.mp jSorted_all c (List.mem_of_getElem? h)
theorem jSorted_lt {a : Nat × Instr × Nat} {l : List (Nat × Instr × Nat)} (h : jSorted (a :: l) = true) : jSorted l = true ∧ ∀ q ∈ l, a.1 < q.1 := by
  induction l generalizing a with
  | nil => exact ⟨rfl, fun q hq => by cases hq⟩
  | cons b l ih =>
    simp only [jSorted, Bool.and_eq_true] at h
    have hab : a.1 < b.1 := by
      have := h.1
      simp only [Nat.blt, Nat.ble_eq] at this
      omega
    refine ⟨h.2, fun q hq => ?_⟩
    rcases List.mem_cons.mp hq with rfl | hq
    · exact hab
    · exact Nat.lt_trans hab ((ih h.2).2 q hq)
theorem jLook {code : List (Nat × Instr × Nat)} (h : jSorted code = true) {q : Nat × Instr × Nat} (hq : q ∈ code) : code.lookup q.1 = some q.2 := by
  induction code with
  | nil => cases hq
  | cons a l ih =>
    obtain ⟨h1, h2⟩ := jSorted_lt h
    rcases List.mem_cons.mp hq with rfl | hq2
    · simp [List.lookup]
    · have hne : ¬ q.1 = a.1 := by have := h2 q hq2; omega
      obtain ⟨a1, a2⟩ := a
      rw [List.lookup_cons]
      rw [show (q.1 == a1) = false from by simpa using hne]
      exact ih h1 hq2
theorem jGo_some {p : Nat} {code : List (Nat × Instr × Nat)} {c : List (Nat × Instr × Nat)} (h : jGo p code = some c) : ∃ q r, c = q :: r ∧ q.1 = p ∧ (∀ x ∈ c, x ∈ code) := by
  induction code with
  | nil => simp [jGo] at h
  | cons a l ih =>
    simp only [jGo] at h
    cases hb : Nat.beq a.1 p with
    | true =>
      rw [hb] at h
      cases h
      exact ⟨a, l, rfl, Nat.eq_of_beq_eq_true hb, fun x hx => hx⟩
    | false =>
      rw [hb] at h
      obtain ⟨q, r, h1, h2, h3⟩ := ih h
      exact ⟨q, r, h1, h2, fun x hx => List.mem_cons_of_mem _ (h3 x hx)⟩
theorem jWp_snd' (cs : List (Nat × List Bool)) (d z : Nat) (Q : Int → jM → Prop) (n : Nat) : ∀ (code : List (Nat × Instr × Nat)) (pc : Nat) (ls : jS) (st : List jV) (m : jM), (∀ x ∈ code, x ∈ jCode (jIx z)) → jWp cs d z Q n code pc ls st m → jA d z pc ls st m Q := by
  induction n with
  | zero => intro code pc ls st m _ h; exact h
  | succ n ih =>
    intro code pc ls st m hc h
    simp only [jWp] at h
    cases hg : jGo pc code with
    | none => rw [hg] at h; exact h
    | some c =>
      obtain ⟨q, r, rfl, hq, hm⟩ := jGo_some hg
      obtain ⟨q1, ai, len⟩ := q
      rw [hg] at h
      dsimp only at hq h
      subst hq
      refine jA_step ?_
      have hi : jIns z q1 = some (ai, len) := jLook (jSorted_code _) (hc _ (hm _ List.mem_cons_self))
      unfold jAt
      rw [hi]
      refine jStp_mono (jCa_mono d) (fun p l s m' g => ?_) (fun _ _ g => g) h
      cases hl : cs.lookup p with
      | some b =>
        rw [hl] at g
        exact jA_weak (jMask_le b l) g
      | none =>
        rw [hl] at g
        exact ih r p l s m' (fun x hx => hc _ (hm _ (List.mem_cons_of_mem _ hx))) g
theorem jWp_snd (cs : List (Nat × List Bool)) (code : List (Nat × Instr × Nat)) (n : Nat) {d z pc : Nat} {ls : jS} {st : List jV} {m : jM} {Q : Int → jM → Prop} (hc : jCode (jIx z) = code) (h : jWp cs d z Q n code pc ls st m) : jA d z pc ls st m Q :=
  jWp_snd' cs d z Q n code pc ls st m (fun x hx => by rw [hc]; exact hx) h
theorem jWp_sn0 (cs : List (Nat × List Bool)) (code : List (Nat × Instr × Nat)) (n : Nat) {d z : Nat} {args : List jV} {m : jM} {Q : Int → jM → Prop} (hc : jCode (jIx z) = code) (h : jForP (jEnt z args) (fun ls => jWp cs d z Q n code 0 ls [] m)) : jK d z args m Q := by
  rw [jForP_eq] at h
  exact jWp_snd cs code n hc h
theorem jWp_c0 (b : List Bool) {d z : Nat} {args : List jV} {m : jM} {Q : Int → jM → Prop} (h : jA d z 0 (jMask b (jEnt z args)) [] m Q) : jK d z args m Q := jA_weak (jMask_le b _) h
