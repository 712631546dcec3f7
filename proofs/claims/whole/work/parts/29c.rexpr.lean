/-! the reference's parser is pP -/
theorem tk_r (B : Int → Int) (p : Int) : ((tk B p).1 = 0 ∨ (tk B p).1 = 1 ∨ (tk B p).1 = 2 ∨ (tk B p).1 = 3 ∨ (tk B p).1 = 4 ∨ (tk B p).1 = 5 ∨ (tk B p).1 = 6) ∧ ((tk B p).1 = 2 → 0 ≤ (tk B p).2.1 ∧ (tk B p).2.1 < 6) ∧ ((tk B p).1 = 3 → 0 ≤ (tk B p).2.1 ∧ (tk B p).2.1 < 4) ∧ ((tk B p).1 = 4 → 8 ≤ (tk B p).2.1 ∧ (tk B p).2.1 < 12) := by
  unfold tk isLt
  (repeat' split) <;> (dsimp only; omega)
theorem rQ_B {B : Int → Int} {L : Int} {m0 : jM} {r : pR} {K : Int → pS → pR} {Q Q' : Int → jM → Prop} (h : rPq B L m0 (pB r K) Q) (h2 : r.1 = 2 → ∀ m, rPs B L m0 r.2.2 m → rPq B L m0 (K r.2.1 r.2.2) Q → Q' r.2.1 m) (h1 : ∀ p, (∀ m v, rPf m0 p m → Q v m) → ∀ m v, rPf m0 p m → Q' v m) : rPq B L m0 r Q' := by
  unfold pB at h
  by_cases e : r.1 = 2
  · rw [if_pos e] at h
    exact ⟨by omega, fun _ m hm => h2 e m hm h, fun g => by omega⟩
  · rw [if_neg e] at h
    exact ⟨h.1, fun g => absurd g e, fun g => h1 _ (h.2.2 g)⟩
theorem rQ_F {B : Int → Int} {L : Int} {m0 : jM} {s : pS} {Q : Int → jM → Prop} (h : rPq B L m0 (pF s) Q) : ∀ m v, rPf m0 s.1 m → Q v m := h.2.2 rfl
theorem rQ_N {B : Int → Int} {L : Int} {m0 : jM} {s : pS} {op num : Int} {K : Int → pS → pR} {Q : Int → jM → Prop} (h : rPq B L m0 (pNew B s op num K) Q) : (s.2.1 < 24 → rPq B L m0 (K s.2.1 (pN B (pA s op num))) Q) ∧ (¬ s.2.1 < 24 → ∀ m v, rPf m0 s.1 m → Q v m) := by
  unfold pNew at h
  constructor
  · intro g; rw [if_pos g] at h; exact h
  · intro g; rw [if_neg g] at h; exact rQ_F h
theorem rQ_T {B : Int → Int} {L : Int} {m0 : jM} {s : pS} {x : Int} {K : pS → pR} {Q : Int → jM → Prop} (h : rPq B L m0 (pTk B s x K) Q) : (isS B s x → rPq B L m0 (K (pN B s)) Q) ∧ (¬ isS B s x → ∀ m v, rPf m0 s.1 m → Q v m) := by
  unfold pTk at h
  constructor
  · intro g; rw [if_pos g] at h; exact h
  · intro g; rw [if_neg g] at h; exact rQ_F h
theorem rQ_O {B : Int → Int} {L : Int} {m0 : jM} {s : pS} {K : pS → pR} {Q : Int → jM → Prop} (h : rPq B L m0 (pOp B s K) Q) : (s.2.2.1 < 5 → rPq B L m0 (K (pN B (qO s 1))) Q) ∧ (¬ s.2.2.1 < 5 → ∀ m v, rPf m0 s.1 m → Q v m) := by
  unfold pOp at h
  constructor
  · intro g; rw [if_pos g] at h; exact h
  · intro g; rw [if_neg g] at h; exact rQ_F h
theorem rPs_0 {B : Int → Int} {L : Int} {m0 m : jM} {s : pS} (h : rPs B L m0 s m) : m 103 22 = 0 := h.2.2.2.1
def rGo (g : Int) (d : Nat) (a : Int) (m : jM) (Q : Int → jM → Prop) : Prop :=
  if g = 0 then jK d zX11_expression [jO 11 103] m Q else if g = 1 then jK d zX11_sum [jO 11 103] m Q else if g = 2 then aX11_sum_5 d a m Q else if g = 3 then jK d zX11_product [jO 11 103] m Q else if g = 4 then aX11_product_5 d a m Q else jK d zX11_factor [jO 11 103] m Q
theorem s_parseR {B : Int → Int} {L : Int} {m0 : jM} (hT : rTx B L m0) (f : Nat) : ∀ (g a : Int) (s : pS) (m : jM) (Q : Int → jM → Prop) (d : Nat), 0 ≤ g → g ≤ 5 → rPs B L m0 s m → rPq B L m0 (pP B f g a s) Q → 2 * f + 6 ≤ d → rGo g d a m Q := by
  induction f with
  | zero => intro g a s m Q d h0 h5 hs hq hd; exact absurd rfl hq.1
  | succ f ih =>
    intro g a s m Q d h0 h5 hs hq hd
    obtain ⟨D, rfl⟩ : ∃ D, d = D + 1 := ⟨d - 1, by omega⟩
    have i0 : ∀ s m Q, rPs B L m0 s m → rPq B L m0 (pP B f 0 0 s) Q → ∀ d, 2 * f + 6 ≤ d → jK d zX11_expression [jO 11 103] m Q := fun s m Q h1 h2 d hd => ih 0 0 s m Q d (by omega) (by omega) h1 h2 hd
    have i1 : ∀ s m Q, rPs B L m0 s m → rPq B L m0 (pP B f 1 0 s) Q → ∀ d, 2 * f + 6 ≤ d → jK d zX11_sum [jO 11 103] m Q := fun s m Q h1 h2 d hd => ih 1 0 s m Q d (by omega) (by omega) h1 h2 hd
    have i2 : ∀ a s m Q, rPs B L m0 s m → rPq B L m0 (pP B f 2 a s) Q → ∀ d, 2 * f + 6 ≤ d → aX11_sum_5 d a m Q := fun a s m Q h1 h2 d hd => ih 2 a s m Q d (by omega) (by omega) h1 h2 hd
    have i3 : ∀ s m Q, rPs B L m0 s m → rPq B L m0 (pP B f 3 0 s) Q → ∀ d, 2 * f + 6 ≤ d → jK d zX11_product [jO 11 103] m Q := fun s m Q h1 h2 d hd => ih 3 0 s m Q d (by omega) (by omega) h1 h2 hd
    have i4 : ∀ a s m Q, rPs B L m0 s m → rPq B L m0 (pP B f 4 a s) Q → ∀ d, 2 * f + 6 ≤ d → aX11_product_5 d a m Q := fun a s m Q h1 h2 d hd => ih 4 a s m Q d (by omega) (by omega) h1 h2 hd
    have i5 : ∀ s m Q, rPs B L m0 s m → rPq B L m0 (pP B f 5 0 s) Q → ∀ d, 2 * f + 6 ≤ d → jK d zX11_factor [jO 11 103] m Q := fun s m Q h1 h2 d hd => ih 5 0 s m Q d (by omega) (by omega) h1 h2 hd
    clear ih
    have dP := pP_d B f
    have hq' : rPq B L m0 (if g = 0 then pEx B (pP B f 0 0) (pP B f 1 0) s
      else if g = 1 then pB (pP B f 3 0 s) (pP B f 2)
      else if g = 2 then pRe B 0 (pP B f 3 0) (pP B f 2) a s
      else if g = 3 then pB (pP B f 5 0 s) (pP B f 4)
      else if g = 4 then pRe B 1 (pP B f 5 0) (pP B f 4) a s
      else pFa B (pP B f 0 0) (pP B f 5 0) s) Q := hq
    clear hq
    -- stuck ones
    have sumF : ∀ d p a m (K : Int → jM → Prop), 1 ≤ d → (∀ m v, rPf m0 p m → K v m) → rPf m0 p m → aX11_sum_5 d a m K := by
      intro d p a m K hd hK hm
      obtain ⟨d, rfl⟩ : ∃ e, d = e + 1 := ⟨d - 1, by omega⟩
      exact gX11_sum_5 (d + 1) a m K (s_isSignF hm.2.1 ⟨fun _ => s_isSignF hm.2.1 ⟨fun _ => hK _ _ hm, fun g => absurd rfl g⟩, fun g => absurd rfl g⟩)
    have proF : ∀ d p a m (K : Int → jM → Prop), 1 ≤ d → (∀ m v, rPf m0 p m → K v m) → rPf m0 p m → aX11_product_5 d a m K := by
      intro d p a m K hd hK hm
      obtain ⟨d, rfl⟩ : ∃ e, d = e + 1 := ⟨d - 1, by omega⟩
      exact gX11_product_5 (d + 1) a m K (s_isSignF hm.2.1 ⟨fun _ => hK _ _ hm, fun g => absurd rfl g⟩)
    have takF : ∀ d p x m (K : Int → jM → Prop), 2 ≤ d → rPf m0 p m → K 0 m → jK d zX11_takes [jO 11 103, jI x] m K := fun d p x m K hd hm hK => jK_deep (show 0 + 2 ≤ d by omega) (s_takesF hm.2.1 hK)
    have hg : g = 0 ∨ g = 1 ∨ g = 2 ∨ g = 3 ∨ g = 4 ∨ g = 5 := by omega
    rcases hg with rfl | rfl | rfl | rfl | rfl | rfl
    · rw [if_pos rfl] at hq'
      show jK (D + 1) zX11_expression [jO 11 103] m Q
      refine gX11_expression D m Q (i1 s m _ hs (rQ_B hq' (fun _ m1 h1 hq1 => ?_) (fun p hp m1 v hm => jK_deep (show 0 + 1 ≤ D by omega) (s_isSignF hm.2.1 ⟨fun _ => hp _ _ hm, fun g => absurd rfl g⟩))) D (by omega))
      generalize pP B f 1 0 s = r1 at *
      obtain ⟨o1, l, s1⟩ := r1
      dsimp only at h1 hq1 ⊢
      refine jK_deep (show 0 + 1 ≤ D by omega) (s_isSignP h1 ⟨fun g => ?_, fun g => ?_⟩)
      · rw [bI_0] at g
        rw [if_neg g] at hq1
        exact hq1.2.1 rfl m1 h1
      · rw [bI_0] at g
        rw [Classical.not_not] at g
        rw [if_pos g] at hq1
        have hN := rQ_N hq1
        refine jK_deep (show 0 + 2 ≤ D by omega) (s_partP h1 (fun q m2 h2 => ⟨fun _ => ?_, fun w => absurd (rPs_0 h2) w⟩) (fun q m2 h2 => ⟨fun w => absurd (h2.2.1.symm.trans w) (by omega), fun _ => hN.2 q m2 0 h2⟩))
        have hN := hN.1 q
        have n0 : 0 ≤ s1.2.1 := h1.2.2.2.2.2.2.1.1
        refine jK_deep (show 0 + 4 ≤ D by omega) (s_nextP hT h2 (by show (tk B s1.1).1 ≠ 6; have := g.1; omega) (fun m3 h3 => ⟨⟨n0, q⟩, ?_⟩))
        refine i1 _ _ _ (rPs_U h3 (f := 4) (by omega) (by omega)) (rQ_B hN (fun _ m4 h4 hq4 => ⟨⟨n0, q⟩, ?_⟩) (fun p hp m1 v hm => ⟨⟨n0, q⟩, takF D p _ _ _ (by omega) (rPf_up hm (by omega)) ⟨fun w => absurd ((rPf_up hm (q := 122) (by omega)).2.1.symm.trans w) (by omega), fun _ => hp _ _ (rPf_up hm (by omega))⟩⟩)) D (by omega)
        have hT4 := rQ_T hq4
        refine jK_deep (show 0 + 5 ≤ D by omega) (s_takesP hT (rPs_U h4 (f := 5) (by omega) (by omega)) (fun y m5 h5 => ⟨fun _ => ?_, fun w => absurd (rPs_0 h5) w⟩) (fun y m5 h5 => ⟨fun w => absurd (h5.2.1.symm.trans w) (by omega), fun _ => hT4.2 y _ _ h5⟩))
        refine i0 _ _ _ h5 (rQ_B (hT4.1 y) (fun _ m6 h6 hq6 => ⟨⟨n0, q⟩, ?_⟩) (fun p hp m1 v hm => ⟨⟨n0, q⟩, takF D p _ _ _ (by omega) (rPf_up hm (by omega)) ⟨fun w => absurd ((rPf_up hm (q := 123) (by omega)).2.1.symm.trans w) (by omega), fun _ => hp _ _ (rPf_up hm (by omega))⟩⟩)) D (by omega)
        have hT6 := rQ_T hq6
        refine jK_deep (show 0 + 5 ≤ D by omega) (s_takesP hT (rPs_U h6 (f := 6) (by omega) (by omega)) (fun y2 m7 h7 => ⟨fun _ => ?_, fun w => absurd (rPs_0 h7) w⟩) (fun y2 m7 h7 => ⟨fun w => absurd (h7.2.1.symm.trans w) (by omega), fun _ => hT6.2 y2 _ _ h7⟩))
        refine i0 _ _ _ h7 (rQ_B (hT6.1 y2) (fun _ m8 h8 hq8 => ⟨⟨n0, q⟩, hq8.2.1 rfl _ (rPs_U h8 (f := 7) (by omega) (by omega))⟩) (fun p hp m1 v hm => ⟨⟨n0, q⟩, hp _ _ (rPf_up hm (by omega))⟩)) D (by omega)
    · rw [if_neg (show ¬ (1 : Int) = 0 by omega), if_pos rfl] at hq'
      show jK (D + 1) zX11_sum [jO 11 103] m Q
      exact gX11_sum D m Q (i3 s m _ hs (rQ_B hq' (fun _ m1 h1 hq1 => i2 _ _ _ _ h1 hq1 D (by omega)) (fun p hp m1 v hm => sumF D p v m1 Q (by omega) hp hm)) D (by omega))
    · rw [if_neg (show ¬ (2 : Int) = 0 by omega), if_neg (show ¬ (2 : Int) = 1 by omega), if_pos rfl] at hq'
      show aX11_sum_5 (D + 1) a m Q
      unfold pRe at hq'
      rw [if_pos rfl] at hq'
      have h := hs
      have t20 := hs.2.1.2.2.2.2.2.2.2.1
      refine gX11_sum_5 (D + 1) a m Q (jK_deep (show 0 + 1 ≤ D + 1 by omega) (s_isSignP hs ⟨fun g1 => ?_, fun g => ?_⟩))
      · rw [bI_0] at g1
        rw [if_neg g1] at hq'
        refine jK_deep (show 0 + 1 ≤ D + 1 by omega) (s_isSignP hs ⟨fun g => ?_, fun g => ?_⟩)
        · rw [bI_0] at g
          rw [if_neg g] at hq'
          exact hq'.2.1 rfl m hs
        rw [bI_0, Classical.not_not] at g
        rw [if_pos g] at hq'
        have hN := rQ_N hq'
        refine gX11_sum_23 (D + 1) a m Q ⟨fun w => absurd ((t20 g.1).2.symm.trans w) (by have := g.2; omega), fun _ => ?_⟩
        refine jK_deep (show 0 + 2 ≤ D + 1 by omega) (s_partP h (fun q m2 h2 => ⟨fun _ => ?_, fun w => absurd (rPs_0 h2) w⟩) (fun q m2 h2 => ⟨fun w => absurd (h2.2.1.symm.trans w) (by omega), fun _ => hN.2 q m2 0 h2⟩))
        have hN := hN.1 q
        have n0 : 0 ≤ s.2.1 := h.2.2.2.2.2.2.1.1
        refine jK_deep (show 0 + 4 ≤ D + 1 by omega) (s_nextP hT h2 (by show (tk B s.1).1 ≠ 6; have := g.1; omega) (fun m3 h3 => ⟨⟨n0, q⟩, ?_⟩))
        exact i3 _ _ _ (rPs_U h3 (f := 4) (by omega) (by omega)) (rQ_B hN (fun _ m4 h4 hq4 => ⟨⟨n0, q⟩, i2 _ _ _ _ (rPs_U h4 (f := 5) (by omega) (by omega)) hq4 (D + 1) (by omega)⟩) (fun p hp m1 v hm => ⟨⟨n0, q⟩, sumF (D + 1) p _ _ Q (by omega) hp (rPf_up hm (by omega))⟩)) (D + 1) (by omega)
      · rw [bI_0, Classical.not_not] at g
        rw [if_pos g] at hq'
        have hN := rQ_N hq'
        refine gX11_sum_23 (D + 1) a m Q ⟨fun _ => ?_, fun w => absurd ((t20 g.1).2.trans g.2) w⟩
        refine jK_deep (show 0 + 2 ≤ D + 1 by omega) (s_partP h (fun q m2 h2 => ⟨fun _ => ?_, fun w => absurd (rPs_0 h2) w⟩) (fun q m2 h2 => ⟨fun w => absurd (h2.2.1.symm.trans w) (by omega), fun _ => hN.2 q m2 0 h2⟩))
        have hN := hN.1 q
        have n0 : 0 ≤ s.2.1 := h.2.2.2.2.2.2.1.1
        refine jK_deep (show 0 + 4 ≤ D + 1 by omega) (s_nextP hT h2 (by show (tk B s.1).1 ≠ 6; have := g.1; omega) (fun m3 h3 => ⟨⟨n0, q⟩, ?_⟩))
        exact i3 _ _ _ (rPs_U h3 (f := 4) (by omega) (by omega)) (rQ_B hN (fun _ m4 h4 hq4 => ⟨⟨n0, q⟩, i2 _ _ _ _ (rPs_U h4 (f := 5) (by omega) (by omega)) hq4 (D + 1) (by omega)⟩) (fun p hp m1 v hm => ⟨⟨n0, q⟩, sumF (D + 1) p _ _ Q (by omega) hp (rPf_up hm (by omega))⟩)) (D + 1) (by omega)
    · rw [if_neg (show ¬ (3 : Int) = 0 by omega), if_neg (show ¬ (3 : Int) = 1 by omega), if_neg (show ¬ (3 : Int) = 2 by omega), if_pos rfl] at hq'
      show jK (D + 1) zX11_product [jO 11 103] m Q
      exact gX11_product D m Q (i5 s m _ hs (rQ_B hq' (fun _ m1 h1 hq1 => i4 _ _ _ _ h1 hq1 D (by omega)) (fun p hp m1 v hm => proF D p v m1 Q (by omega) hp hm)) D (by omega))
    · rw [if_neg (show ¬ (4 : Int) = 0 by omega), if_neg (show ¬ (4 : Int) = 1 by omega), if_neg (show ¬ (4 : Int) = 2 by omega), if_neg (show ¬ (4 : Int) = 3 by omega), if_pos rfl] at hq'
      show aX11_product_5 (D + 1) a m Q
      unfold pRe at hq'
      rw [if_neg (show ¬ (1 : Int) = 0 by omega)] at hq'
      have h := hs
      refine gX11_product_5 (D + 1) a m Q (jK_deep (show 0 + 1 ≤ D + 1 by omega) (s_isSignP hs ⟨fun g => ?_, fun g => ?_⟩))
      · rw [bI_0] at g
        rw [if_neg g] at hq'
        exact hq'.2.1 rfl m hs
      rw [bI_0, Classical.not_not] at g
      rw [if_pos g] at hq'
      have hN := rQ_N hq'
      refine jK_deep (show 0 + 2 ≤ D + 1 by omega) (s_partP h (fun q m2 h2 => ⟨fun _ => ?_, fun w => absurd (rPs_0 h2) w⟩) (fun q m2 h2 => ⟨fun w => absurd (h2.2.1.symm.trans w) (by omega), fun _ => hN.2 q m2 0 h2⟩))
      have hN := hN.1 q
      have n0 : 0 ≤ s.2.1 := h.2.2.2.2.2.2.1.1
      refine jK_deep (show 0 + 4 ≤ D + 1 by omega) (s_nextP hT h2 (by show (tk B s.1).1 ≠ 6; have := g.1; omega) (fun m3 h3 => ⟨⟨n0, q⟩, ?_⟩))
      exact i5 _ _ _ (rPs_U h3 (f := 4) (by omega) (by omega)) (rQ_B hN (fun _ m4 h4 hq4 => ⟨⟨n0, q⟩, i4 _ _ _ _ (rPs_U h4 (f := 5) (by omega) (by omega)) hq4 (D + 1) (by omega)⟩) (fun p hp m1 v hm => ⟨⟨n0, q⟩, proF (D + 1) p _ _ Q (by omega) hp (rPf_up hm (by omega))⟩)) (D + 1) (by omega)
    · rw [if_neg (show ¬ (5 : Int) = 0 by omega), if_neg (show ¬ (5 : Int) = 1 by omega), if_neg (show ¬ (5 : Int) = 2 by omega), if_neg (show ¬ (5 : Int) = 3 by omega), if_neg (show ¬ (5 : Int) = 4 by omega)] at hq'
      show jK (D + 1) zX11_factor [jO 11 103] m Q
      obtain ⟨kr, k2, k3, k4⟩ := tk_r B s.1
      have n0 : 0 ≤ s.2.1 := hs.2.2.2.2.2.2.1.1
      obtain ⟨t19, t17, t0, t1, t2, t3, t4, t5, t6⟩ := hs.2.1
      have leaf : ∀ (op num : Int), (tk B s.1).1 ≠ 6 → rPq B L m0 (pNew B s op num (fun k s => (2, k, s))) Q → jK D zX11_part [jO 11 103, jI op, jI num] m (fun v1 m1 => ((m1 103 22) = 0 → jK D zX11_next [jO 11 103] m1 (fun v2 m2 => Q v1 m2)) ∧ (¬ (m1 103 22) = 0 → Q v1 m1)) := by
        intro op num h6 hq
        have hN := rQ_N hq
        refine jK_deep (show 0 + 2 ≤ D by omega) (s_partP hs (fun q m2 h2 => ⟨fun _ => ?_, fun w => absurd (rPs_0 h2) w⟩) (fun q m2 h2 => ⟨fun w => absurd (h2.2.1.symm.trans w) (by omega), fun _ => hN.2 q m2 0 h2⟩))
        exact jK_deep (show 0 + 4 ≤ D by omega) (s_nextP hT h2 h6 (fun m3 h3 => (hN.1 q).2.1 rfl m3 h3))
      have kk : ((tk B s.1).1 = 0 ∧ m 103 18 = 0) ∨ ((tk B s.1).1 = 1 ∧ m 103 18 = 2 ∧ m 103 20 = (tk B s.1).2.1) ∨ ((tk B s.1).1 = 2 ∧ m 103 18 = 1 ∧ m 103 20 = 20 + (tk B s.1).2.1 ∧ 0 ≤ (tk B s.1).2.1 ∧ (tk B s.1).2.1 < 6) ∨ ((tk B s.1).1 = 3 ∧ m 103 18 = 1 ∧ m 103 20 = 30 + (tk B s.1).2.1 ∧ 0 ≤ (tk B s.1).2.1 ∧ (tk B s.1).2.1 < 4) ∨ ((tk B s.1).1 = 4 ∧ m 103 18 = 1 ∧ m 103 20 = (tk B s.1).2.1 ∧ 8 ≤ (tk B s.1).2.1 ∧ (tk B s.1).2.1 < 12) ∨ ((tk B s.1).1 = 5 ∧ m 103 18 = 3) ∨ ((tk B s.1).1 = 6 ∧ m 103 18 = 4) := by
        rcases kr with e | e | e | e | e | e | e
        · exact Or.inl ⟨e, t0 e⟩
        · exact Or.inr (Or.inl ⟨e, t1 e⟩)
        · exact Or.inr (Or.inr (Or.inl ⟨e, (t2 e).1, (t2 e).2, k2 e⟩))
        · exact Or.inr (Or.inr (Or.inr (Or.inl ⟨e, (t3 e).1, (t3 e).2, k3 e⟩)))
        · exact Or.inr (Or.inr (Or.inr (Or.inr (Or.inl ⟨e, (t4 e).1, (t4 e).2, k4 e⟩))))
        · exact Or.inr (Or.inr (Or.inr (Or.inr (Or.inr (Or.inl ⟨e, (t5 e).1⟩)))))
        · exact Or.inr (Or.inr (Or.inr (Or.inr (Or.inr (Or.inr ⟨e, t6 e⟩)))))
      clear t19 t17 t0 t1 t2 t3 t4 t5 t6 kr k2 k3 k4
      have sgn : ∀ (x : Int) (K : Int → jM → Prop), K (bI (isS B s x)) m → jK D zX11_isSign [jO 11 103, jI x] m K := fun x K hK => jK_deep (show 0 + 1 ≤ D by omega) (s_isSignP hs hK)
      unfold pFa at hq'
      have a107 : (tk B s.1).1 = 0 ∨ 4 ≤ (tk B s.1).1 → aX11_factor_107 D m Q := by
        intro hk
        rw [if_neg (by omega), if_neg (by omega), if_neg (by omega)] at hq'
        refine gX11_factor_107 D m Q ⟨fun g => ?_, fun g => ?_⟩
        · have e4 : (tk B s.1).1 = 4 := by omega
          rw [if_pos e4] at hq'
          have e20 : m 103 20 = (tk B s.1).2.1 := by omega
          obtain ⟨E, rfl⟩ : ∃ e, D = e + 1 := ⟨D - 1, by omega⟩
          have hN := rQ_N hq'
          refine gX11_ofTwo E m (fun v1 m1 => Q v1 m1) ?_
          rw [e20]
          refine jK_deep (show 0 + 2 ≤ E by omega) (s_partP hs (fun q m2 h2 => ⟨fun _ => ?_, fun w => absurd (rPs_0 h2) w⟩) (fun q m2 h2 => ⟨fun w => absurd (h2.2.1.symm.trans w) (by omega), fun _ => hN.2 q m2 0 h2⟩))
          have hN := hN.1 q
          refine jK_deep (show 0 + 4 ≤ E by omega) (s_nextP hT h2 (by show (tk B s.1).1 ≠ 6; omega) (fun m3 h3 => ?_))
          unfold pTwo at hN
          refine jK_deep (show 0 + 1 ≤ E by omega) (s_isSignP h3 ⟨fun g => ?_, fun g => ?_⟩)
          · rw [bI_0] at g
            rw [if_neg g] at hN
            exact jK_deep (show 0 + 1 ≤ E by omega) (s_failP h3 (fun m4 h4 => rQ_F hN _ _ h4))
          rw [bI_0, Classical.not_not] at g
          rw [if_pos g] at hN
          have hO := rQ_O hN
          have h3d := h3.2.2.2.2.2.2.2.1
          refine jK_deep (show 0 + 2 ≤ E by omega) (s_opensP h3 (fun q4 m4 h4 => ⟨fun w => by omega, fun _ => ?_⟩) (fun q4 m4 h4 => ⟨fun _ => hO.2 q4 _ _ h4, fun w => absurd rfl w⟩))
          refine jK_deep (show 0 + 4 ≤ E by omega) (s_nextP hT h4 (by show (tk B _).1 ≠ 6; have := g.1; dsimp only [qO] at this ⊢; omega) (fun m5 h5 => ?_))
          refine i0 _ _ _ h5 (rQ_B (hO.1 q4) (fun o1 m6 h6 hq6 => ⟨⟨n0, q⟩, ?_⟩) (fun p hp m1 v hm => ⟨⟨n0, q⟩, takF E p _ _ _ (by omega) (rPf_up hm (by omega)) ⟨fun w => absurd ((rPf_up hm (q := 121) (by omega)).2.1.symm.trans w) (by omega), fun _ => hp _ _ (rPf_up hm (by omega))⟩⟩)) E (by omega)
          have d1 := dP 0 0 _ o1
          have hT6 := rQ_T hq6
          refine jK_deep (show 0 + 5 ≤ E by omega) (s_takesP hT (rPs_U h6 (f := 4) (by omega) (by omega)) (fun y2 m7 h7 => ⟨fun _ => ?_, fun w => absurd (rPs_0 h7) w⟩) (fun y2 m7 h7 => ⟨fun w => absurd (h7.2.1.symm.trans w) (by omega), fun _ => hT6.2 y2 _ _ h7⟩))
          refine i0 _ _ _ h7 (rQ_B (hT6.1 y2) (fun o2 m8 h8 hq8 => ⟨⟨n0, q⟩, ?_⟩) (fun p hp m1 v hm => ⟨⟨n0, q⟩, takF E p _ _ _ (by omega) (rPf_up hm (by omega)) (hp _ _ (rPf_21 (rPf_up hm (by omega))))⟩)) E (by omega)
          have d2 := dP 0 0 _ o2
          have hT8 := rQ_T hq8
          refine jK_deep (show 0 + 5 ≤ E by omega) (s_takesP hT (rPs_U h8 (f := 5) (by omega) (by omega)) (fun y3 m9 h9 => (hT8.1 y3).2.1 rfl _ (rPs_O h9 ?_ ?_)) (fun y3 m9 h9 => hT8.2 y3 _ _ (rPf_21 h9)))
          · dsimp only [pN, pA, pU, qO] at d1 d2 h3d ⊢
            omega
          · rw [h9.2.2.2.2.2.1]
            dsimp only [pN, pA, pU, qO] at d1 d2 h3d ⊢
            rw [w32_id (by omega) (by omega)]
            omega
        · rw [if_neg (by omega)] at hq'
          refine sgn _ _ ⟨fun g45 => ?_, fun g45 => ?_⟩
          · rw [bI_0] at g45
            rw [if_neg g45] at hq'
            refine sgn _ _ ⟨fun g40 => ?_, fun g40 => ?_⟩
            · rw [bI_0] at g40
              rw [if_neg g40] at hq'
              refine sgn _ _ ⟨fun g124 => ?_, fun g124 => ?_⟩
              · rw [bI_0] at g124
                rw [if_neg g124] at hq'
                exact jK_deep (show 0 + 1 ≤ D by omega) (s_failP hs (fun m4 h4 => rQ_F hq' _ _ h4))
              · rw [bI_0, Classical.not_not] at g124
                rw [if_pos g124] at hq'
                have d0 := hs.2.2.2.2.2.2.2.1
                refine jK_deep (show 0 + 2 ≤ D by omega) (s_partP hs (fun q m2 h2 => ⟨fun _ => ?_, fun w => absurd (rPs_0 h2) w⟩) (fun q m2 h2 => ⟨fun w => absurd (h2.2.1.symm.trans w) (by omega), fun _ => ?_⟩))
                · rw [if_pos q] at hq'
                  have hO := rQ_O hq'
                  refine jK_deep (show 0 + 2 ≤ D by omega) (s_opensP h2 (fun q4 m4 h4 => ⟨fun w => by omega, fun _ => ?_⟩) (fun q4 m4 h4 => ⟨fun _ => hO.2 q4 _ _ h4, fun w => absurd rfl w⟩))
                  refine jK_deep (show 0 + 4 ≤ D by omega) (s_nextP hT h4 (by show (tk B s.1).1 ≠ 6; have := g124.1; omega) (fun m5 h5 => ?_))
                  refine i0 _ _ _ h5 (rQ_B (hO.1 q4) (fun o1 m6 h6 hq6 => ⟨⟨n0, q⟩, ?_⟩) (fun p hp m1 v hm => ⟨⟨n0, q⟩, takF D p _ _ _ (by omega) (rPf_up hm (by omega)) (hp _ _ (rPf_21 (rPf_up hm (by omega))))⟩)) D (by omega)
                  have d1 := dP 0 0 _ o1
                  have hT6 := rQ_T hq6
                  refine jK_deep (show 0 + 5 ≤ D by omega) (s_takesP hT (rPs_U h6 (f := 4) (by omega) (by omega)) (fun y3 m9 h9 => (hT6.1 y3).2.1 rfl _ (rPs_O h9 ?_ ?_)) (fun y3 m9 h9 => hT6.2 y3 _ _ (rPf_21 h9)))
                  · dsimp only [pN, pA, pU, qO] at d1 q4 ⊢
                    omega
                  · rw [h9.2.2.2.2.2.1]
                    dsimp only [pN, pA, pU, qO] at d1 q4 ⊢
                    rw [w32_id (by omega) (by omega)]
                    omega
                · rw [if_neg q] at hq'
                  exact rQ_F hq' _ _ h2
            · rw [bI_0, Classical.not_not] at g40
              rw [if_pos g40] at hq'
              have d0 := hs.2.2.2.2.2.2.2.1
              have hO := rQ_O hq'
              refine jK_deep (show 0 + 2 ≤ D by omega) (s_opensP hs (fun q4 m4 h4 => ⟨fun w => by omega, fun _ => ?_⟩) (fun q4 m4 h4 => ⟨fun _ => hO.2 q4 _ _ h4, fun w => absurd rfl w⟩))
              refine jK_deep (show 0 + 4 ≤ D by omega) (s_nextP hT h4 (by show (tk B s.1).1 ≠ 6; have := g40.1; omega) (fun m5 h5 => ?_))
              refine i0 _ _ _ h5 (rQ_B (hO.1 q4) (fun o1 m6 h6 hq6 => ?_) (fun p hp m1 v hm => by exact takF D p _ _ _ (by omega) hm (hp _ _ (rPf_21 hm)))) D (by omega)
              have d1 := dP 0 0 _ o1
              have hT6 := rQ_T hq6
              refine jK_deep (show 0 + 5 ≤ D by omega) (s_takesP hT h6 (fun y3 m9 h9 => (hT6.1 y3).2.1 rfl _ (rPs_O h9 ?_ ?_)) (fun y3 m9 h9 => hT6.2 y3 _ _ (rPf_21 h9)))
              · dsimp only [pN, pA, pU, qO] at d1 q4 ⊢
                omega
              · rw [h9.2.2.2.2.2.1]
                dsimp only [pN, pA, pU, qO] at d1 q4 ⊢
                rw [w32_id (by omega) (by omega)]
                omega
          · rw [bI_0, Classical.not_not] at g45
            rw [if_pos g45] at hq'
            have hN := rQ_N hq'
            refine jK_deep (show 0 + 2 ≤ D by omega) (s_partP hs (fun q m2 h2 => ⟨fun _ => ?_, fun w => absurd (rPs_0 h2) w⟩) (fun q m2 h2 => ⟨fun w => absurd (h2.2.1.symm.trans w) (by omega), fun _ => hN.2 q m2 0 h2⟩))
            refine jK_deep (show 0 + 4 ≤ D by omega) (s_nextP hT h2 (by show (tk B s.1).1 ≠ 6; omega) (fun m3 h3 => ?_))
            exact i5 _ _ _ h3 (rQ_B (hN.1 q) (fun o1 m6 h6 hq6 => ⟨⟨n0, q⟩, hq6.2.1 rfl _ (rPs_U h6 (f := 4) (by omega) (by omega))⟩) (fun p hp m1 v hm => ⟨⟨n0, q⟩, hp _ _ (rPf_up hm (by omega))⟩)) D (by omega)
      refine gX11_factor D m Q ⟨fun _ => ⟨fun g => ?_, fun g => ⟨fun g2 => ⟨fun g3 => ?_, fun g3 => ⟨fun g4 => ?_, fun g4 => ?_⟩⟩, fun g2 => ?_⟩⟩, fun w => absurd (rPs_0 hs) w⟩
      · have e : (tk B s.1).1 = 1 := by omega
        rw [if_pos e] at hq'
        rw [show m 103 20 = (tk B s.1).2.1 by omega]
        exact leaf _ _ (by omega) hq'
      · exact a107 (by omega)
      · have e : (tk B s.1).1 = 2 := by omega
        rw [if_neg (by omega), if_pos e] at hq'
        rw [w32_id (by omega) (by omega), show m 103 20 - 20 = (tk B s.1).2.1 by omega]
        exact leaf _ _ (by omega) hq'
      · have e : (tk B s.1).1 = 3 := by omega
        rw [if_neg (by omega), if_neg (by omega), if_pos e] at hq'
        rw [w32_id (by omega) (by omega), show m 103 20 - 30 = (tk B s.1).2.1 by omega]
        exact leaf _ _ (by omega) hq'
      · exact a107 (by omega)
