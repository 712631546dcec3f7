/-! tokens: B i is the byte at i, -1 behind the last -/
abbrev isLt (b : Int) : Prop := 97 ≤ b ∧ b ≤ 122
abbrev isDg (b : Int) : Prop := 48 ≤ b ∧ b ≤ 57
abbrev isSg (b : Int) : Prop := b = 40 ∨ b = 41 ∨ b = 42 ∨ b = 43 ∨ b = 44 ∨ b = 45 ∨ b = 58 ∨ b = 60 ∨ b = 63 ∨ b = 124
/-- the first place from p on where the byte isn't such -/
def runF (P : Int → Bool) (B : Int → Int) : Nat → Int → Int
  | 0, p => p
  | r + 1, p => if P (B p) = true then runF P B r (p + 1) else p
theorem runF_s (P : Int → Bool) (B : Int → Int) (r : Nat) (p : Int) : runF P B (r + 1) p = if P (B p) = true then runF P B r (p + 1) else p := rfl
theorem runF_r (P : Int → Bool) (B : Int → Int) (r : Nat) : ∀ p : Int, p ≤ runF P B r p ∧ runF P B r p ≤ p + r := by
  induction r with
  | zero => intro p; show p ≤ p ∧ p ≤ p + ((0 : Nat) : Int); omega
  | succ r ih =>
    intro p
    rw [runF_s]
    split
    · have := ih (p + 1)
      omega
    · omega
/-- B stands for the n bytes of a row -/
def bOf (w : Int → Int) (n : Int) (i : Int) : Int := if i < n then w i else -1
def skp (B : Int → Int) (p : Int) : Int := runF (fun b => decide (b = 32)) B (61 - p).toNat p
def lts (B : Int → Int) (p : Int) : Int := runF (fun b => decide (isLt b)) B (61 - p).toNat p
def dgs (B : Int → Int) (p : Int) : Int := runF (fun b => decide (isDg b)) B (61 - p).toNat p
theorem run_in {P : Int → Bool} {B : Int → Int} {p : Int} (h : P (B p) = true) (hp : p < 61) : runF P B (61 - p).toNat p = runF P B (61 - (p + 1)).toNat (p + 1) := by
  rw [show (61 - p).toNat = (61 - (p + 1)).toNat + 1 by omega, runF_s, if_pos h]
theorem run_out {P : Int → Bool} {B : Int → Int} {p : Int} (h : ¬ P (B p) = true) : runF P B (61 - p).toNat p = p := by
  cases hn : (61 - p).toNat with
  | zero => rfl
  | succ n => rw [runF_s, if_neg h]
theorem run_ge {P : Int → Bool} {B : Int → Int} (p : Int) : p ≤ runF P B (61 - p).toNat p := (runF_r P B _ p).1
/-- the value of digits from p to e -/
def dgV (B : Int → Int) : Nat → Int → Int → Int
  | 0, _, v => v
  | r + 1, p, v => dgV B r (p + 1) (10 * v + B p - 48)
/-- a token: sort (0 end, 1 number, 2 trait, 3 rule, 4 of two, 5 sign, 6 wrong), what, where it ends -/
def tk (B : Int → Int) (p : Int) : Int × Int × Int :=
  if B p = -1 then (0, 0, p)
  else if isLt (B p) then
    (if lts B p = p + 1 then (if B p ≤ 99 then (2, B p - 97, lts B p) else if 120 ≤ B p then (2, 3 + B p - 120, lts B p) else if 112 ≤ B p ∧ B p ≤ 115 then (3, B p - 112, lts B p) else (6, 0, lts B p))
     else if lts B p = p + 3 then
       (if B p = 109 ∧ B (p + 1) = 105 ∧ B (p + 2) = 110 then (4, 8, lts B p) else if B p = 109 ∧ B (p + 1) = 97 ∧ B (p + 2) = 120 then (4, 9, lts B p) else if B p = 100 ∧ B (p + 1) = 105 ∧ B (p + 2) = 118 then (4, 10, lts B p) else if B p = 109 ∧ B (p + 1) = 111 ∧ B (p + 2) = 100 then (4, 11, lts B p) else (6, 0, lts B p))
     else (6, 0, lts B p))
  else if isDg (B p) then (if p + 4 < dgs B p then (6, 0, dgs B p) else (1, dgV B (dgs B p - p).toNat p 0, dgs B p))
  else if isSg (B p) then (5, B p, p + 1) else (6, 0, p + 1)
/-- where the token behind that at p stands -/
def nx (B : Int → Int) (p : Int) : Int := skp B (tk B p).2.2
theorem s_isLetterC {d : Nat} {b : Int} {m : jM} {Q : Int → jM → Prop} (h1 : isLt b → Q 1 m) (h0 : ¬ isLt b → Q 0 m) : jK (d + 1) zX8_isLetter [jI b] m Q := by
  unfold isLt at h1 h0
  exact gX8_isLetter d b m Q ⟨fun q => h0 (by omega), fun q => ⟨fun q2 => h0 (by omega), fun q2 => h1 (by omega)⟩⟩
theorem s_isDigitC {d : Nat} {b : Int} {m : jM} {Q : Int → jM → Prop} (h1 : isDg b → Q 1 m) (h0 : ¬ isDg b → Q 0 m) : jK (d + 1) zX8_isDigit [jI b] m Q := by
  unfold isDg at h1 h0
  exact gX8_isDigit d b m Q ⟨fun q => h0 (by omega), fun q => ⟨fun q2 => h0 (by omega), fun q2 => h1 (by omega)⟩⟩
theorem s_isSignC {d : Nat} {b : Int} {m : jM} {Q : Int → jM → Prop} (h1 : isSg b → Q 1 m) (h0 : ¬ isSg b → Q 0 m) : jK (d + 1) zX8_isSign [jI b] m Q := by
  unfold isSg at h1 h0
  refine gX8_isSign d b m Q ⟨fun q => h1 (by omega), fun q => h1 (by omega), fun q => h1 (by omega), fun q => h1 (by omega), fun q => h1 (by omega), fun q => h1 (by omega), fun q => h1 (by omega), fun q => h1 (by omega), fun q => h1 (by omega), fun q => h1 (by omega), fun q => h0 ?_, trivial⟩
  have a1 := q (40, 92) (by simp)
  have a2 := q (41, 92) (by simp)
  have a3 := q (42, 92) (by simp)
  have a4 := q (43, 92) (by simp)
  have a5 := q (44, 92) (by simp)
  have a6 := q (45, 92) (by simp)
  have a7 := q (58, 92) (by simp)
  have a8 := q (60, 92) (by simp)
  have a9 := q (63, 92) (by simp)
  have a10 := q (124, 92) (by simp)
  dsimp only at *
  omega
theorem s_isLetterR {d : Nat} {b : Int} {m : jM} {Q : Int → jM → Prop} (h1 : isLt b → Q 1 m) (h0 : ¬ isLt b → Q 0 m) : jK (d + 2) zX11_isLetter [jI b] m Q := by
  refine gX11_isLetter (d + 1) b m Q (s_in ?_)
  by_cases g : isLt b
  · rw [bI_t g, if_pos (Or.inr rfl)]; exact h1 g
  · rw [bI_f g, if_pos (Or.inl rfl)]; exact h0 g
theorem s_isDigitR {d : Nat} {b : Int} {m : jM} {Q : Int → jM → Prop} (h1 : isDg b → Q 1 m) (h0 : ¬ isDg b → Q 0 m) : jK (d + 2) zX11_isDigit [jI b] m Q := by
  refine gX11_isDigit (d + 1) b m Q (s_in ?_)
  by_cases g : isDg b
  · rw [bI_t g, if_pos (Or.inr rfl)]; exact h1 g
  · rw [bI_f g, if_pos (Or.inl rfl)]; exact h0 g
theorem s_isSignByte {d : Nat} {b : Int} {m : jM} {Q : Int → jM → Prop} (h1 : isSg b → Q 1 m) (h0 : ¬ isSg b → Q 0 m) : jK (d + 1) zX11_isSignByte [jI b] m Q := by
  unfold isSg at h1 h0
  exact gX11_isSignByte d b m Q ⟨fun q => h1 (by omega), fun q => ⟨fun q => h1 (by omega), fun q => ⟨fun q => h1 (by omega), fun q => ⟨fun q => h1 (by omega), fun q => ⟨fun q => h1 (by omega), fun q => ⟨fun q => h1 (by omega), fun q => ⟨fun q => h1 (by omega), fun q => ⟨fun q => h1 (by omega), fun q => ⟨fun q => h1 (by omega), fun q => ⟨fun q => h1 (by omega), fun q => h0 (by omega)⟩⟩⟩⟩⟩⟩⟩⟩⟩⟩
theorem s_byteAt {d : Nat} {i n : Int} {m : jM} {Q : Int → jM → Prop} (hn : m 103 16 = n) (hi : 0 ≤ i) (hn60 : n ≤ 60) (h : Q (bOf (m 118) n i) m) : jK (d + 1) zX11_byteAt [jO 11 103, jI i] m Q := by
  unfold bOf at h
  refine gX11_byteAt d i m Q ⟨fun q => ⟨by omega, ?_⟩, fun q => ?_⟩ <;> rw [hn] at q
  · rw [if_pos q] at h; exact h
  · rw [if_neg q] at h; exact h
/-- the class's token: place, where it ends, sort, what -/
def cTk (B : Int → Int) (p : Int) (m : jM) : Prop := m 45 6 = p ∧ ((tk B p).1 ≠ 6 → m 45 3 = (tk B p).2.2) ∧ 0 ≤ m 45 3 ∧
  ((tk B p).1 = 0 → m 45 5 = 0) ∧ ((tk B p).1 = 1 → m 45 5 = 1 ∧ m 45 7 = 1 ∧ m 45 8 = (tk B p).2.1) ∧ ((tk B p).1 = 2 → m 45 5 = 1 ∧ (if (tk B p).2.1 < 3 then m 45 7 = 2 ∧ m 45 8 = (tk B p).2.1 else m 45 7 = 3 ∧ m 45 8 = (tk B p).2.1 - 3)) ∧
  ((tk B p).1 = 3 → m 45 5 = 1 ∧ m 45 7 = 4 ∧ m 45 8 = (tk B p).2.1) ∧ ((tk B p).1 = 4 → m 45 5 = 2 ∧ m 45 7 = (tk B p).2.1 + 2) ∧ ((tk B p).1 = 5 → m 45 5 = (tk B p).2.1) ∧ ((tk B p).1 = 6 → m 45 5 = 3)
/-- only the token's fields change -/
def tFr (m m' : jM) : Prop := (∀ q, q ≠ 45 → m' q = m q) ∧ ∀ f, f ≠ 3 → f ≠ 5 → f ≠ 6 → f ≠ 7 → f ≠ 8 → m' 45 f = m 45 f
