/-! the reference's parser -/
theorem rTk_c {B : Int → Int} {p : Int} {m m' : jM} (h : ∀ f, 17 ≤ f → f ≤ 20 → m' 103 f = m 103 f) (hr : rTk B p m) : rTk B p m' := by
  unfold rTk at hr ⊢
  rw [h 17 (by omega) (by omega), h 18 (by omega) (by omega), h 19 (by omega) (by omega), h 20 (by omega) (by omega)]
  exact hr
def rFm (m0 m : jM) : Prop := (∀ q, q ≠ 103 → ¬ (119 ≤ q ∧ q ≤ 125) → m q = m0 q) ∧ ∀ f, f < 17 ∨ 24 < f → m 103 f = m0 103 f
def rPs (B : Int → Int) (L : Int) (m0 : jM) (s : pS) (m : jM) : Prop := rFm m0 m ∧ rTk B s.1 m ∧ (0 ≤ s.1 ∧ s.1 ≤ L) ∧ m 103 22 = 0 ∧ m 103 24 = s.2.1 ∧ m 103 21 = s.2.2.1 ∧ (0 ≤ s.2.1 ∧ s.2.1 ≤ 24) ∧ (0 ≤ s.2.2.1 ∧ s.2.2.1 ≤ 5) ∧ ∀ f k, 2 ≤ f → f ≤ 8 → m (117 + f) k = s.2.2.2 f k
def rPf (m0 : jM) (p : Int) (m : jM) : Prop := rFm m0 m ∧ m 103 22 = 1 ∧ m 103 23 = p
def rPq (B : Int → Int) (L : Int) (m0 : jM) (r : pR) (Q : Int → jM → Prop) : Prop := r.1 ≠ 0 ∧ (r.1 = 2 → ∀ m, rPs B L m0 r.2.2 m → Q r.2.1 m) ∧ (r.1 = 1 → ∀ m v, rPf m0 r.2.2.1 m → Q v m)
def rTx (B : Int → Int) (L : Int) (m0 : jM) : Prop := bOf (m0 118) L = B ∧ m0 103 16 = L ∧ (0 ≤ L ∧ L ≤ 60) ∧ ∀ i : Int, 0 ≤ i → i < L → 0 ≤ m0 118 i ∧ m0 118 i ≤ 255
theorem rFm_up {m0 m : jM} (h : rFm m0 m) {q k v : Int} (hq : 119 ≤ q ∧ q ≤ 125) : rFm m0 (jUp m q k v) :=
  ⟨fun a b c => by rw [up_ne (by omega)]; exact h.1 a b c, fun f hf => by rw [up_ne (by omega)]; exact h.2 f hf⟩
theorem rFm_f {m0 m : jM} (h : rFm m0 m) {f v : Int} (hq : 17 ≤ f ∧ f ≤ 24) : rFm m0 (jUp m 103 f v) :=
  ⟨fun a b c => by rw [up_ne b]; exact h.1 a b c, fun g hg => by rw [up_oth (by omega)]; exact h.2 g hg⟩
theorem rPf_up {m0 m : jM} {p : Int} (h : rPf m0 p m) {q k v : Int} (hq : 119 ≤ q ∧ q ≤ 125) : rPf m0 p (jUp m q k v) := ⟨rFm_up h.1 hq, by rw [up_ne (by omega)]; exact h.2.1, by rw [up_ne (by omega)]; exact h.2.2⟩
theorem rPf_21 {m0 m : jM} {p : Int} (h : rPf m0 p m) {v : Int} : rPf m0 p (jUp m 103 21 v) := ⟨rFm_f h.1 (by omega), by rw [up_oth (by omega)]; exact h.2.1, by rw [up_oth (by omega)]; exact h.2.2⟩
theorem rPs_U {B : Int → Int} {L : Int} {m0 m : jM} {s : pS} (h : rPs B L m0 s m) {f k v : Int} (hf : 2 ≤ f ∧ f ≤ 8) {q : Int} (hq : q = 117 + f) : rPs B L m0 (pU s f k v) (jUp m q k v) := by
  subst hq
  obtain ⟨h1, h2, h3, h4, h5, h6, h7, h8, h9⟩ := h
  have e : jUp m (117 + f) k v 103 = m 103 := up_ne (by omega)
  refine ⟨rFm_up h1 (by omega), rTk_c (fun g _ _ => by rw [e]) h2, h3, by rw [e]; exact h4, by rw [e]; exact h5, by rw [e]; exact h6, h7, h8, fun g j a b => ?_⟩
  show (if 117 + g = 117 + f ∧ j = k then v else m (117 + g) j) = (if g = f ∧ j = k then v else s.2.2.2 g j)
  by_cases x : g = f ∧ j = k
  · rw [if_pos x, if_pos ⟨by omega, x.2⟩]
  · rw [if_neg x, if_neg (fun y => x ⟨by omega, y.2⟩)]; exact h9 g j a b
theorem rPs_O {B : Int → Int} {L : Int} {m0 m : jM} {s : pS} (h : rPs B L m0 s m) {v : Int} (hv : 0 ≤ s.2.2.1 + v ∧ s.2.2.1 + v ≤ 5) {w : Int} (hw : w = s.2.2.1 + v) : rPs B L m0 (qO s v) (jUp m 103 21 w) := by
  obtain ⟨h1, h2, h3, h4, h5, h6, h7, h8, h9⟩ := h
  exact ⟨rFm_f h1 (by omega), rTk_c (fun g _ _ => up_oth (by omega)) h2, h3, by rw [up_oth (by omega)]; exact h4, by rw [up_oth (by omega)]; exact h5, by rw [up_same]; exact hw, h7, hv, fun g j a b => by rw [up_ne (by omega)]; exact h9 g j a b⟩
theorem s_failP {d : Nat} {B : Int → Int} {L : Int} {m0 m : jM} {s : pS} {Q : Int → jM → Prop} (h : rPs B L m0 s m) (hQ : ∀ m', rPf m0 s.1 m' → Q 0 m') : jK (d + 1) zX11_fail [jO 11 103] m Q := by
  obtain ⟨h1, h2, h3, h4, h5, h6, h7, h8, h9⟩ := h
  refine gX11_fail d m Q ⟨fun _ => hQ _ ⟨rFm_f (rFm_f h1 (by omega)) (by omega), by rw [up_oth (by omega), up_same], ?_⟩, fun g => absurd h4 g⟩
  rw [up_same, up_oth (by omega)]
  exact h2.1
theorem s_failF {d : Nat} {m : jM} {Q : Int → jM → Prop} (h : m 103 22 = 1) (hQ : Q 0 m) : jK (d + 1) zX11_fail [jO 11 103] m Q := gX11_fail d m Q ⟨fun g => by omega, fun _ => hQ⟩
theorem s_isSignP {d : Nat} {B : Int → Int} {L : Int} {m0 m : jM} {s : pS} {x : Int} {Q : Int → jM → Prop} (h : rPs B L m0 s m) (hQ : Q (bI (isS B s x)) m) : jK (d + 1) zX11_isSign [jO 11 103, jI x] m Q := by
  obtain ⟨h1, h2, h3, h4, h5, h6, h7, h8, h9⟩ := h
  obtain ⟨t1, t2, t3, t4, t5, t6, t7, t8, t9⟩ := h2
  have tr : (tk B s.1).1 = 0 ∨ (tk B s.1).1 = 1 ∨ (tk B s.1).1 = 2 ∨ (tk B s.1).1 = 3 ∨ (tk B s.1).1 = 4 ∨ (tk B s.1).1 = 5 ∨ (tk B s.1).1 = 6 := by
    unfold tk
    (repeat' split) <;> omega
  refine gX11_isSign d x m Q ⟨fun _ => ⟨fun g => ?_, fun g => ?_⟩, fun g => absurd h4 g⟩
  · have g5 : (tk B s.1).1 = 5 := by
      rcases tr with e | e | e | e | e | e | e
      · have := t3 e; omega
      · have := (t4 e).1; omega
      · have := (t5 e).1; omega
      · have := (t6 e).1; omega
      · have := (t7 e).1; omega
      · exact e
      · have := t9 e; omega
    refine ⟨fun q => ?_, fun q => ?_⟩
    · rw [bI_t ⟨g5, by rw [← (t8 g5).2]; exact q⟩] at hQ; exact hQ
    · rw [bI_f (fun y => q (by rw [(t8 g5).2]; exact y.2))] at hQ; exact hQ
  · rw [bI_f (fun y => g (t8 y.1).1)] at hQ; exact hQ
theorem s_isSignF {d : Nat} {m : jM} {x : Int} {Q : Int → jM → Prop} (h : m 103 22 = 1) (hQ : Q 0 m) : jK (d + 1) zX11_isSign [jO 11 103, jI x] m Q := gX11_isSign d x m Q ⟨fun g => by omega, fun _ => hQ⟩
theorem tk_end {B : Int → Int} {L p : Int} (hB : ∀ i, L ≤ i → B i = -1) (hp : 0 ≤ p ∧ p ≤ L) : p ≤ (tk B p).2.2 ∧ (tk B p).2.2 ≤ L := by
  have a1 : p ≤ lts B p := run_ge p
  have a2 : p ≤ dgs B p := run_ge p
  have b1 : lts B p ≤ L := run_le (fun i hi => by rw [hB i hi]; decide) _ p hp.2
  have b2 : dgs B p ≤ L := run_le (fun i hi => by rw [hB i hi]; decide) _ p hp.2
  by_cases e : B p = -1
  · unfold tk
    rw [if_pos e]
    exact ⟨Int.le_refl p, hp.2⟩
  have lt : p < L := by
    apply Decidable.byContradiction
    intro g
    exact e (hB p (by omega))
  unfold tk
  rw [if_neg e]
  (repeat' split) <;> dsimp only <;> omega
theorem skp_le {B : Int → Int} {L p : Int} (hB : ∀ i, L ≤ i → B i = -1) (hp : 0 ≤ p ∧ p ≤ L) : p ≤ skp B p ∧ skp B p ≤ L := ⟨run_ge p, run_le (fun i hi => by rw [hB i hi]; decide) _ p hp.2⟩
theorem s_nextP {d : Nat} {B : Int → Int} {L : Int} {m0 m : jM} {s : pS} {Q : Int → jM → Prop} (hT : rTx B L m0) (h : rPs B L m0 s m) (h6 : (tk B s.1).1 ≠ 6) (hQ : ∀ m', rPs B L m0 (pN B s) m' → Q 0 m') : jK (d + 4) zX11_next [jO 11 103] m Q := by
  obtain ⟨T1, T2, T3, T4⟩ := hT
  obtain ⟨h1, h2, h3, h4, h5, h6', h7, h8, h9⟩ := h
  have hBo : ∀ i, L ≤ i → B i = -1 := fun i hi => by rw [← T1]; exact bOf_out hi
  have te := tk_end hBo h3
  have e119 : m 118 = m0 118 := h1.1 118 (by omega) (by omega)
  have sk := skp_le hBo (p := (tk B s.1).2.2) (by omega)
  refine s_nextR (n := L) (a := (tk B s.1).2.2) T3 (by omega) (by rw [h1.2 16 (by omega)]; exact T2) (h2.2.1 h6) (by rw [e119]; exact T4) (fun m' hf hr => hQ m' ?_)
  rw [e119, T1] at hr
  have e1 : ∀ f, 20 < f ∨ f < 17 → m' 103 f = m 103 f := fun f hf2 => hf.2 f (by omega) (by omega) (by omega) (by omega)
  exact ⟨⟨fun a b c => by rw [hf.1 a b]; exact h1.1 a b c, fun f hf2 => by rw [e1 f (by omega)]; exact h1.2 f hf2⟩, hr, ⟨by show 0 ≤ skp B _; omega, sk.2⟩, by rw [e1 22 (by omega)]; exact h4, by rw [e1 24 (by omega)]; exact h5, by rw [e1 21 (by omega)]; exact h6', h7, h8, fun f k a b => by rw [hf.1 _ (by omega)]; exact h9 f k a b⟩
theorem s_takesP {d : Nat} {B : Int → Int} {L : Int} {m0 m : jM} {s : pS} {x : Int} {Q : Int → jM → Prop} (hT : rTx B L m0) (h : rPs B L m0 s m) (h2 : isS B s x → ∀ m', rPs B L m0 (pN B s) m' → Q 0 m') (h1 : ¬ isS B s x → ∀ m', rPf m0 s.1 m' → Q 0 m') : jK (d + 5) zX11_takes [jO 11 103, jI x] m Q := by
  refine gX11_takes (d + 4) x m Q (s_isSignP h ⟨fun g => ?_, fun g => ?_⟩)
  · rw [bI_0] at g
    exact jK_deep (show d + 1 ≤ d + 4 by omega) (s_failP h (h1 g))
  · rw [bI_0] at g
    rw [Classical.not_not] at g
    exact s_nextP hT h (by have := g.1; omega) (h2 g)
theorem s_takesF {d : Nat} {m : jM} {x : Int} {Q : Int → jM → Prop} (h : m 103 22 = 1) (hQ : Q 0 m) : jK (d + 2) zX11_takes [jO 11 103, jI x] m Q :=
  gX11_takes (d + 1) x m Q (s_isSignF h ⟨fun _ => s_failF h hQ, fun g => absurd rfl g⟩)
theorem s_opensP {d : Nat} {B : Int → Int} {L : Int} {m0 m : jM} {s : pS} {Q : Int → jM → Prop} (h : rPs B L m0 s m) (h2 : s.2.2.1 < 5 → ∀ m', rPs B L m0 (qO s 1) m' → Q 1 m') (h1 : ¬ s.2.2.1 < 5 → ∀ m', rPf m0 s.1 m' → Q 0 m') : jK (d + 2) zX11_opens [jO 11 103] m Q := by
  have h' := h
  obtain ⟨_, _, _, h4, _, h6, _, h8, _⟩ := h'
  refine gX11_opens (d + 1) m Q ⟨fun _ => ⟨fun g => s_failP h (h1 (by omega)), fun g => h2 (by omega) _ (rPs_O h (by omega) ?_)⟩, fun g => absurd h4 g⟩
  rw [h6]
  exact w32_id (by omega) (by omega)
theorem s_partP {d : Nat} {B : Int → Int} {L : Int} {m0 m : jM} {s : pS} {op num : Int} {Q : Int → jM → Prop} (h : rPs B L m0 s m) (h2 : s.2.1 < 24 → ∀ m', rPs B L m0 (pA s op num) m' → Q s.2.1 m') (h1 : ¬ s.2.1 < 24 → ∀ m', rPf m0 s.1 m' → Q 0 m') : jK (d + 2) zX11_part [jO 11 103, jI op, jI num] m Q := by
  have h' := h
  obtain ⟨g1, g2, g3, h4, h5, h6, h7, h8, h9⟩ := h'
  refine gX11_part (d + 1) op num m Q ⟨fun _ => ⟨fun g => s_failP h (h1 (by omega)), fun g => ?_⟩, fun g => absurd h4 g⟩
  rw [h5] at g ⊢
  refine ⟨by omega, by omega, by omega, by omega, by omega, by omega, by omega, h2 (by omega) _ ?_⟩
  rw [show w32 (s.2.1 + 1) = s.2.1 + 1 from w32_id (by omega) (by omega)]
  have b0 : rPs B L m0 (s.1, s.2.1 + 1, s.2.2.1, s.2.2.2) (jUp m 103 24 (s.2.1 + 1)) := ⟨rFm_f g1 (by omega), rTk_c (fun g _ _ => up_oth (by omega)) g2, g3, by rw [up_oth (by omega)]; exact h4, up_same, by rw [up_oth (by omega)]; exact h6, ⟨by dsimp only; omega, by dsimp only; omega⟩, h8, fun g j a b => by rw [up_ne (by omega)]; exact h9 g j a b⟩
  have b1 := rPs_U (rPs_U (rPs_U (rPs_U (rPs_U (rPs_U b0 (f := 2) (k := s.2.1) (v := op) (by omega) (q := 119) (by omega)) (f := 3) (k := s.2.1) (v := num) (by omega) (q := 120) (by omega)) (f := 4) (k := s.2.1) (v := 0) (by omega) (q := 121) (by omega)) (f := 5) (k := s.2.1) (v := 0) (by omega) (q := 122) (by omega)) (f := 6) (k := s.2.1) (v := 0) (by omega) (q := 123) (by omega)) (f := 7) (k := s.2.1) (v := 0) (by omega) (q := 124) (by omega)
  have e19 : (jUp (jUp (jUp (jUp (jUp (jUp (jUp m 103 24 (s.2.1 + 1)) 119 s.2.1 op) 120 s.2.1 num) 121 s.2.1 0) 122 s.2.1 0) 123 s.2.1 0) 124 s.2.1 0) 103 19 = s.1 := b1.2.1.1
  rw [e19]
  exact rPs_U b1 (f := 8) (k := s.2.1) (v := s.1) (by omega) (q := 125) (by omega)
/-! the open ones come back -/
def pV (e : Int) (r : pR) : Prop := r.1 = 2 → r.2.2.2.2.1 = e
theorem pV_B {e : Int} {r : pR} {K : Int → pS → pR} (h : r.1 = 2 → pV e (K r.2.1 r.2.2)) : pV e (pB r K) := by
  unfold pB
  split
  · rename_i q; exact h q
  · rename_i q; exact fun g => absurd g q
theorem pV_F {e : Int} {s : pS} : pV e (pF s) := fun g => by unfold pF at g; dsimp only at g; omega
theorem pV_N {B : Int → Int} {e : Int} {s : pS} {op num : Int} {K : Int → pS → pR} (h : pV e (K s.2.1 (pN B (pA s op num)))) : pV e (pNew B s op num K) := by
  unfold pNew; split
  · exact h
  · exact pV_F
theorem pV_T {B : Int → Int} {e : Int} {s : pS} {x : Int} {K : pS → pR} (h : pV e (K (pN B s))) : pV e (pTk B s x K) := by
  unfold pTk; split
  · exact h
  · exact pV_F
theorem pV_O {B : Int → Int} {e : Int} {s : pS} {K : pS → pR} (h : pV e (K (pN B (qO s 1)))) : pV e (pOp B s K) := by
  unfold pOp; split
  · exact h
  · exact pV_F
theorem pP_d (B : Int → Int) (f : Nat) : ∀ (g a : Int) (s : pS), pV s.2.2.1 (pP B f g a s) := by
  induction f with
  | zero => intro g a s h; exact absurd h (by show ¬ (0 : Int) = 2; omega)
  | succ f ih =>
    intro g a s
    have re : ∀ (w : Int) (a : Int) (P3 : pS → pR) (P2 : Int → pS → pR), (∀ s, pV s.2.2.1 (P3 s)) → (∀ a s, pV s.2.2.1 (P2 a s)) → pV s.2.2.1 (pRe B w P3 P2 a s) := by
      intro w a P3 P2 i3 i2
      have two : ∀ op : Int, pV s.2.2.1 (pNew B s op 0 (fun k s => pB (P3 (pU s 4 k a)) (fun r s => P2 k (pU s 5 k r)))) := fun op => pV_N (pV_B (fun h => by
        have e := i3 _ h
        exact fun h2 => (i2 _ _ h2).trans e))
      unfold pRe
      split
      · split
        · exact two 3
        split
        · exact two 4
        · exact fun _ => rfl
      · split
        · exact two 5
        · exact fun _ => rfl
    have tw : ∀ (k : Int) (s1 : pS), s1.2.2.1 = s.2.2.1 → pV s.2.2.1 (pTwo B (pP B f 0 0) k s1) := by
      intro k s1 e0
      unfold pTwo
      split
      · refine pV_O (pV_B (fun h => pV_T (pV_B (fun h2 => pV_T (fun _ => ?_)))))
        have e1 := ih 0 0 _ h
        have e2 := ih 0 0 _ h2
        dsimp only [pN, pA, pU, qO] at e1 e2 ⊢
        omega
      · exact pV_F
    show pV s.2.2.1 (if g = 0 then pEx B (pP B f 0 0) (pP B f 1 0) s
      else if g = 1 then pB (pP B f 3 0 s) (pP B f 2)
      else if g = 2 then pRe B 0 (pP B f 3 0) (pP B f 2) a s
      else if g = 3 then pB (pP B f 5 0 s) (pP B f 4)
      else if g = 4 then pRe B 1 (pP B f 5 0) (pP B f 4) a s
      else pFa B (pP B f 0 0) (pP B f 5 0) s)
    split
    · refine pV_B (fun h => ?_)
      have e1 := ih 1 0 _ h
      split
      · refine pV_N (pV_B (fun h2 => pV_T (pV_B (fun h3 => pV_T (pV_B (fun h4 => fun _ => ?_))))))
        have e2 := ih 1 0 _ h2
        have e3 := ih 0 0 _ h3
        have e4 := ih 0 0 _ h4
        dsimp only [pN, pA, pU, qO] at e2 e3 e4 ⊢
        omega
      · exact fun _ => e1
    split
    · exact pV_B (fun h => fun h2 => (ih 2 _ _ h2).trans (ih 3 0 _ h))
    split
    · exact re 0 a _ _ (fun s => ih 3 0 s) (fun a s => ih 2 a s)
    split
    · exact pV_B (fun h => fun h2 => (ih 4 _ _ h2).trans (ih 5 0 _ h))
    split
    · exact re 1 a _ _ (fun s => ih 5 0 s) (fun a s => ih 4 a s)
    unfold pFa
    split
    · exact pV_N (fun _ => rfl)
    split
    · exact pV_N (fun _ => rfl)
    split
    · exact pV_N (fun _ => rfl)
    split
    · exact pV_N (tw _ _ rfl)
    split
    · exact pV_N (pV_B (fun h => fun _ => ih 5 0 _ h))
    split
    · refine pV_O (pV_B (fun h => pV_T (fun _ => ?_)))
      have e1 := ih 0 0 _ h
      dsimp only [pN, pA, pU, qO] at e1 ⊢
      omega
    split
    · split
      · refine pV_O (pV_B (fun h => pV_T (fun _ => ?_)))
        have e1 := ih 0 0 _ h
        dsimp only [pN, pA, pU, qO] at e1 ⊢
        omega
      · exact pV_F
    · exact pV_F
