/-! joining steps -/
def cX (R : jM) (so sa sp : Int → Int) (lo hi a b k : Int) : Prop := ∀ N : Nat, hi - lo ≤ (N : Int) → cT R so sa sp lo hi N a b k
/-- t = 1: the steps are minus part k -/
def cN (t : Int) (R : jM) (so sa sp : Int → Int) (lo hi a b k : Int) : Prop :=
  if t = 0 then cX R so sa sp lo hi a b k else ((cX R so sa sp lo hi a (b - 1) k ∧ so (b - 1) = 5) ∨ ((lo ≤ k ∧ k < hi) ∧ R 2 k = 6 ∧ ∃ lo' hi', (lo ≤ lo' ∧ hi' ≤ hi ∧ hi' - lo' < hi - lo) ∧ cX R so sa sp lo' hi' a b (R 4 k)))
/-- steps a .. b - 1 are the same -/
def eqS (so sa sp so' sa' sp' : Int → Int) (a b : Int) : Prop := ∀ i, a ≤ i → i < b → so' i = so i ∧ sa' i = sa i ∧ sp' i = sp i
def eqR (R R' : jM) (lo hi : Int) : Prop := ∀ f k, 2 ≤ f → f ≤ 8 → lo ≤ k → k < hi → R' f k = R f k
theorem cX_c {R R' : jM} {so sa sp so' sa' sp' : Int → Int} {lo hi a b k : Int} (hR : eqR R R' lo hi) (hs : eqS so sa sp so' sa' sp' a b) (h : cX R so sa sp lo hi a b k) : cX R' so' sa' sp' lo hi a b k := fun N hN => cT_c hR (Int.le_refl _) (Int.le_refl _) N (Nat.le_refl N) hs (h N hN)
theorem cX_in {R : jM} {so sa sp : Int → Int} {lo hi lo' hi' a b k : Int} (h : cX R so sa sp lo hi a b k) (hl : lo' ≤ lo) (hh : hi ≤ hi') {N : Nat} (hN : hi - lo ≤ (N : Int)) : cT R so sa sp lo' hi' N a b k := cT_c (fun _ _ _ _ _ _ => rfl) hl hh N (Nat.le_refl N) (fun _ _ _ => ⟨rfl, rfl, rfl⟩) (h N hN)
theorem cX_lt {R : jM} {so sa sp : Int → Int} {lo hi a b k : Int} (h : cX R so sa sp lo hi a b k) : a < b := cT_lt (h (hi - lo).toNat (by omega))
theorem cX_k {R : jM} {so sa sp : Int → Int} {lo hi a b k : Int} (h : cX R so sa sp lo hi a b k) : lo ≤ k ∧ k < hi := by
  have := h ((hi - lo).toNat + 1) (by omega)
  exact this.1
theorem cX_s {R : jM} {so sa sp : Int → Int} {lo hi a b k : Int} (hk : lo ≤ k ∧ k < hi) (h : ∀ n : Nat, hi - lo ≤ (n : Int) + 1 → cT R so sa sp lo hi (n + 1) a b k) : cX R so sa sp lo hi a b k := by
  intro N hN
  obtain ⟨n, rfl⟩ : ∃ n, N = n + 1 := ⟨N - 1, by omega⟩
  exact h n (by omega)
theorem cX_two {R : jM} {so sa sp : Int → Int} {lo hi lo1 hi1 lo2 hi2 a z b k l r : Int} (hk : lo ≤ k ∧ k < hi) (r1 : lo ≤ lo1 ∧ hi1 ≤ hi ∧ hi1 - lo1 < hi - lo) (r2 : lo ≤ lo2 ∧ hi2 ≤ hi ∧ hi2 - lo2 < hi - lo)
    (h1 : cX R so sa sp lo1 hi1 a z l) (h2 : cX R so sa sp lo2 hi2 z b r) (ho : (3 ≤ R 2 k ∧ R 2 k ≤ 5) ∨ (8 ≤ R 2 k ∧ R 2 k ≤ 11)) (e4 : R 4 k = l) (e5 : R 5 k = r) (es : so b = cop (R 2 k)) (ep : sp b = R 8 k) : cX R so sa sp lo hi a (b + 1) k := by
  refine cX_s hk (fun n hn => ⟨hk, Or.inr (Or.inr (Or.inr (Or.inr (Or.inr (Or.inl ⟨ho, z, ?_, ?_, ?_, ?_⟩)))))⟩)
  · rw [e4]; exact cX_in h1 r1.1 r1.2.1 (by omega)
  · rw [e5, show b + 1 - 1 = b by omega]; exact cX_in h2 r2.1 r2.2.1 (by omega)
  · rw [show b + 1 - 1 = b by omega]; exact es
  · rw [show b + 1 - 1 = b by omega]; exact ep
theorem cX_abs {R : jM} {so sa sp : Int → Int} {lo hi lo1 hi1 a b k l : Int} (hk : lo ≤ k ∧ k < hi) (r1 : lo ≤ lo1 ∧ hi1 ≤ hi ∧ hi1 - lo1 < hi - lo) (h1 : cX R so sa sp lo1 hi1 a b l) (ho : R 2 k = 7) (e4 : R 4 k = l) (es : so b = 6) : cX R so sa sp lo hi a (b + 1) k := by
  refine cX_s hk (fun n hn => ⟨hk, Or.inr (Or.inr (Or.inr (Or.inr (Or.inl ⟨ho, ?_, ?_⟩))))⟩)
  · rw [e4, show b + 1 - 1 = b by omega]; exact cX_in h1 r1.1 r1.2.1 (by omega)
  · rw [show b + 1 - 1 = b by omega]; exact es
theorem cX_if {R : jM} {so sa sp : Int → Int} {lo hi lo1 hi1 lo2 hi2 lo3 hi3 lo4 hi4 a x y z b k l r t e : Int} (hk : lo ≤ k ∧ k < hi) (r1 : lo ≤ lo1 ∧ hi1 ≤ hi ∧ hi1 - lo1 < hi - lo) (r2 : lo ≤ lo2 ∧ hi2 ≤ hi ∧ hi2 - lo2 < hi - lo) (r3 : lo ≤ lo3 ∧ hi3 ≤ hi ∧ hi3 - lo3 < hi - lo) (r4 : lo ≤ lo4 ∧ hi4 ≤ hi ∧ hi4 - lo4 < hi - lo)
    (h1 : cX R so sa sp lo1 hi1 a x l) (h2 : cX R so sa sp lo2 hi2 x y r) (h3 : cX R so sa sp lo3 hi3 (y + 1) z t) (h4 : cX R so sa sp lo4 hi4 (z + 1) b e) (ho : R 2 k = 12) (e4 : R 4 k = l) (e5 : R 5 k = r) (e6 : R 6 k = t) (e7 : R 7 k = e) (s1 : so y = 14) (s2 : sa y = z + 1) (s3 : so z = 15) (s4 : sa z = b) : cX R so sa sp lo hi a b k := by
  refine cX_s hk (fun n hn => ⟨hk, Or.inr (Or.inr (Or.inr (Or.inr (Or.inr (Or.inr ⟨ho, x, y, z, ?_, ?_, s1, s2, ?_, s3, s4, ?_⟩)))))⟩)
  · rw [e4]; exact cX_in h1 r1.1 r1.2.1 (by omega)
  · rw [e5]; exact cX_in h2 r2.1 r2.2.1 (by omega)
  · rw [e6]; exact cX_in h3 r3.1 r3.2.1 (by omega)
  · rw [e7]; exact cX_in h4 r4.1 r4.2.1 (by omega)
/-- a minus row above: the turned one's steps are the row's -/
theorem cN_neg {t : Int} {R : jM} {so sa sp : Int → Int} {lo hi lo1 hi1 a b k l : Int} (ht : t = 0 ∨ t = 1) (hk : lo ≤ k ∧ k < hi) (r1 : lo ≤ lo1 ∧ hi1 ≤ hi ∧ hi1 - lo1 < hi - lo) (h1 : cN (1 - t) R so sa sp lo1 hi1 a b l) (ho : R 2 k = 6) (e4 : R 4 k = l) : cN t R so sa sp lo hi a b k := by
  rcases ht with rfl | rfl
  · unfold cN at h1 ⊢
    rw [if_neg (by omega)] at h1
    rw [if_pos rfl]
    refine cX_s hk (fun n hn => ⟨hk, Or.inr (Or.inr (Or.inr (Or.inl ⟨ho, ?_⟩)))⟩)
    rw [e4]
    rcases h1 with ⟨h, h'⟩ | ⟨h, h', lo', hi', q, h''⟩
    · exact Or.inl ⟨cX_in h r1.1 r1.2.1 (by omega), h'⟩
    · exact Or.inr ⟨⟨by omega, by omega⟩, h', cX_in h'' (by omega) (by omega) (by omega)⟩
  · unfold cN at h1 ⊢
    rw [if_pos (by omega)] at h1
    rw [if_neg (by omega)]
    exact Or.inr ⟨hk, ho, lo1, hi1, r1, by rw [e4]; exact h1⟩
theorem cN_c {t : Int} {R R' : jM} {so sa sp so' sa' sp' : Int → Int} {lo hi a b k : Int} (hR : eqR R R' lo hi) (hs : eqS so sa sp so' sa' sp' a b) (h : cN t R so sa sp lo hi a b k) : cN t R' so' sa' sp' lo hi a b k := by
  unfold cN at h ⊢
  by_cases e : t = 0
  · rw [if_pos e] at h ⊢; exact cX_c hR hs h
  · rw [if_neg e] at h ⊢
    rcases h with ⟨h, h'⟩ | ⟨h1, h2, lo', hi', q, h3⟩
    · have := cX_lt h
      exact Or.inl ⟨cX_c hR (fun i a1 a2 => hs i a1 (by omega)) h, by rw [(hs (b - 1) (by omega) (by omega)).1]; exact h'⟩
    · rw [hR 2 k (by omega) (by omega) h1.1 h1.2, hR 4 k (by omega) (by omega) h1.1 h1.2]
      exact Or.inr ⟨h1, h2, lo', hi', q, cX_c (fun f j a1 a2 a3 a4 => hR f j a1 a2 (by omega) (by omega)) hs h3⟩
/-! answers of the class's parser -/
def cO (D A lo t : Int) (m : jM) (k : Int) (s : pS) (m' : jM) : Prop := (∀ i, i < A → m' (D + 1) i = m (D + 1) i ∧ m' (D + 2) i = m (D + 2) i ∧ m' (D + 3) i = m (D + 3) i) ∧ A ≤ m' D 1 ∧ 2 * (m' D 1 - A) + 1 ≤ 3 * (s.2.1 - lo) + 2 * t ∧ cN t s.2.2.2 (m' (D + 1)) (m' (D + 2)) (m' (D + 3)) lo s.2.1 A (m' D 1) k
def cPq (B : Int → Int) (L D : Int) (m0 : jM) (A lo t : Int) (m : jM) (r : pR) (Q : Int → jM → Prop) : Prop := r.1 ≠ 0 ∧ (r.1 = 2 → ∀ m', cPs B L D m0 r.2.2 m' → cO D A lo t m r.2.1 r.2.2 m' → Q 1 m') ∧ (r.1 = 1 → ∀ m', cPf D m0 r.2.2.1 m' → Q 0 m')
theorem cQ_B {B : Int → Int} {L D : Int} {m0 : jM} {A lo t A1 lo1 t1 : Int} {m m1 : jM} {r : pR} {K : Int → pS → pR} {Q Q' : Int → jM → Prop} (h : cPq B L D m0 A lo t m (pB r K) Q) (h2 : r.1 = 2 → ∀ m', cPs B L D m0 r.2.2 m' → cO D A1 lo1 t1 m1 r.2.1 r.2.2 m' → cPq B L D m0 A lo t m (K r.2.1 r.2.2) Q → Q' 1 m') (h1 : ∀ p, (∀ m', cPf D m0 p m' → Q 0 m') → ∀ m', cPf D m0 p m' → Q' 0 m') : cPq B L D m0 A1 lo1 t1 m1 r Q' := by
  unfold pB at h
  by_cases e : r.1 = 2
  · rw [if_pos e] at h
    exact ⟨by omega, fun _ m' hm ho => h2 e m' hm ho h, fun g => by omega⟩
  · rw [if_neg e] at h
    exact ⟨h.1, fun g => absurd g e, fun g => h1 _ (h.2.2 g)⟩
theorem cQ_F {B : Int → Int} {L D : Int} {m0 : jM} {A lo t : Int} {m : jM} {s : pS} {Q : Int → jM → Prop} (h : cPq B L D m0 A lo t m (pF s) Q) : ∀ m', cPf D m0 s.1 m' → Q 0 m' := h.2.2 rfl
theorem cQ_N {B : Int → Int} {L D : Int} {m0 : jM} {A lo t : Int} {m : jM} {s : pS} {op num : Int} {K : Int → pS → pR} {Q : Int → jM → Prop} (h : cPq B L D m0 A lo t m (pNew B s op num K) Q) : (s.2.1 < 24 → cPq B L D m0 A lo t m (K s.2.1 (pN B (pA s op num))) Q) ∧ (¬ s.2.1 < 24 → ∀ m', cPf D m0 s.1 m' → Q 0 m') := by
  unfold pNew at h
  constructor
  · intro g; rw [if_pos g] at h; exact h
  · intro g; rw [if_neg g] at h; exact cQ_F h
theorem cQ_T {B : Int → Int} {L D : Int} {m0 : jM} {A lo t : Int} {m : jM} {s : pS} {x : Int} {K : pS → pR} {Q : Int → jM → Prop} (h : cPq B L D m0 A lo t m (pTk B s x K) Q) : (isS B s x → cPq B L D m0 A lo t m (K (pN B s)) Q) ∧ (¬ isS B s x → ∀ m', cPf D m0 s.1 m' → Q 0 m') := by
  unfold pTk at h
  constructor
  · intro g; rw [if_pos g] at h; exact h
  · intro g; rw [if_neg g] at h; exact cQ_F h
theorem cQ_O {B : Int → Int} {L D : Int} {m0 : jM} {A lo t : Int} {m : jM} {s : pS} {K : pS → pR} {Q : Int → jM → Prop} (h : cPq B L D m0 A lo t m (pOp B s K) Q) : (s.2.2.1 < 5 → cPq B L D m0 A lo t m (K (pN B (qO s 1))) Q) ∧ (¬ s.2.2.1 < 5 → ∀ m', cPf D m0 s.1 m' → Q 0 m') := by
  unfold pOp at h
  constructor
  · intro g; rw [if_pos g] at h; exact h
  · intro g; rw [if_neg g] at h; exact cQ_F h
