/-! the reference's walks, lists -/
theorem s_walks {o : Int → Int → Bool} {b : Int → Int → Int} {C : Int → Bool} (hB : dpB o b) (d : Nat) (k : Nat) : ∀ {c set sum : Int} {m : jM} {Q : Int → jM → Prop} {pre : List Int} {P R T : List (List Int)}, c + k = 8 → (pre.length : Int) = c → mk8 set → (∀ i : Int, 0 ≤ i → i < c → m 131 i = pre.getD i.toNat (-1)) →
    P ++ (mts o C k set).map (fun l => pre ++ l) ++ R = mts o C 8 0 → (∀ l ∈ mts o C k set, tot b 8 (pre ++ l) = sum + tot b k l) → (0 ≤ sum ∧ sum ≤ 1000000000 * c) → rO (m 128) = o → rB (m 128) = b → rC (m 104) = C → rLT m → rSt m b T → Top (tot b 8) P T →
    (∀ (m' : jM) (T' : List (List Int)), (∀ q, q ≠ 103 → q ≠ 131 → q ≠ 133 → q ≠ 134 → m' q = m q) → (∀ j, j ≠ 48 → m' 103 j = m 103 j) → (∀ i : Int, 0 ≤ i → i < c → m' 131 i = pre.getD i.toNat (-1)) → rSt m' b T' → Top (tot b 8) (P ++ (mts o C k set).map (fun l => pre ++ l)) T' → Q 0 m') →
    jK (d + k + 2) zX11_walks [jO 11 103, jI c, jI set, jL sum] m Q := by
  induction k with
  | zero =>
    intro c set sum m Q pre P R T hck hpl hs hp hall htot hsum ho hb hC hL hst htop h
    have e0 : (mts o C 0 set).map (fun l => pre ++ l) = [pre] := by simp [mts]
    rw [e0] at hall h
    have hpw := mts_pw o C 8 0
    rw [← hall, List.pairwise_append, List.pairwise_append] at hpw
    have ht0 := htot [] (by simp [mts])
    rw [List.append_nil, show tot b 0 [] = 0 from rfl, Int.add_zero] at ht0
    refine gX11_walks (d + 1) c set sum m Q ⟨fun _ => s_enters (l := pre) htop.1 htop.2.2.1 hst (fun c' g1 g2 => hp c' g1 (by omega)) ht0 (fun m' n k1 k2 k3 k4 k5 k6 => ?_), fun q => by omega⟩
    refine h m' _ (fun q g1 g2 g3 g4 => k4 q g1 g3 g4) k5 (fun i g1 g2 => by rw [k4 131 (by omega) (by omega) (by omega)]; exact hp i g1 g2) k6 ?_
    refine top_ins htop (fun p hpP => hpw.1.2.2 p hpP pre (List.mem_singleton.mpr rfl)) k1 (fun y hy => by rw [ht0]; exact k2 y hy) (fun y hy => by rw [ht0]; exact k3 y hy)
  | succ k ih =>
    intro c set sum m Q pre P R T hck hpl hs hp hall htot hsum ho hb hC hL hst htop h
    have hc7 : 0 ≤ c ∧ c < 8 := by omega
    have e7 : 7 - (k : Int) = c := by omega
    have ec : w32 (c + 1) = c + 1 := w32_id (by omega) (by omega)
    -- judges[c] is written, the rest stays
    have upm : ∀ (m1 : jM) (x : Int), (∀ q, q ≠ 103 → q ≠ 131 → q ≠ 133 → q ≠ 134 → m1 q = m q) → rLT m1 → ∀ T1, rSt m1 b T1 → (∀ i : Int, 0 ≤ i → i < c → m1 131 i = pre.getD i.toNat (-1)) →
        rO (jUp m1 131 c x 128) = o ∧ rB (jUp m1 131 c x 128) = b ∧ rC (jUp m1 131 c x 104) = C ∧ rLT (jUp m1 131 c x) ∧ rSt (jUp m1 131 c x) b T1 ∧ (∀ i : Int, 0 ≤ i → i < c + 1 → jUp m1 131 c x 131 i = (pre ++ [x]).getD i.toNat (-1)) := by
      intro m1 x f0 f1 T1 f2 f3
      have g1 : jUp m1 131 c x 128 = m 128 := by rw [up_ne (by omega)]; exact f0 128 (by omega) (by omega) (by omega) (by omega)
      have g2 : jUp m1 131 c x 104 = m 104 := by rw [up_ne (by omega)]; exact f0 104 (by omega) (by omega) (by omega) (by omega)
      refine ⟨by rw [g1, ho], by rw [g1, hb], by rw [g2, hC], ?_, ?_, fun i h0 hi => ?_⟩
      · unfold rLT rEn at f1 ⊢
        rw [up_ne (show ¬ (128 : Int) = 131 by omega), up_ne (show ¬ (104 : Int) = 131 by omega), up_ne (show ¬ (129 : Int) = 131 by omega), up_ne (show ¬ (130 : Int) = 131 by omega)]
        exact f1
      · unfold rSt rEt at f2 ⊢
        rw [up_ne (show ¬ (103 : Int) = 131 by omega), up_ne (show ¬ (133 : Int) = 131 by omega), up_ne (show ¬ (134 : Int) = 131 by omega)]
        exact f2
      · rw [up_eq, List.getD_eq_getElem?_getD, List.getElem?_append]
        split
        · rename_i he
          rw [if_neg (by omega), show i.toNat - pre.length = 0 by omega]
          rfl
        · rename_i he
          rw [if_pos (by omega), ← List.getD_eq_getElem?_getD]
          exact f3 i h0 (by omega)
    have hms := mts_s o C k set
    rw [e7] at hms
    obtain ⟨u1, u2, u3, u4, u5, u6⟩ := upm m (-1) (fun _ _ _ _ _ => rfl) hL T hst hp
    refine gX11_walks (d + k + 2) c set sum m Q ⟨fun q => by omega, fun _ => ⟨hc7, jK_deep (show (d + k + 1) + 1 ≤ d + k + 2 by omega) (s_isCase hc7 ⟨fun q2 => ?_, fun q2 => ?_⟩)⟩⟩
    · rw [bI_0, u3] at q2
      rw [if_neg q2] at hms
      have e2 : (mts o C (k + 1) set).map (fun l => pre ++ l) = (mts o C k set).map (fun l => (pre ++ [-1]) ++ l) := by
        rw [hms, List.map_map]
        apply List.map_congr_left
        intro l _
        simp
      rw [e2] at hall h
      rw [ec]
      refine ih (pre := pre ++ [-1]) (P := P) (R := R) (T := T) (by omega) (by rw [List.length_append]; simp; omega) hs u6 hall (fun l hl => ?_) (by omega) u1 u2 u3 u4 u5 htop (fun m' T' k1 k2 k3 k4 k5 => ?_)
      · have := htot ((-1) :: l) (by rw [hms]; exact List.mem_map.mpr ⟨l, hl, rfl⟩)
        rw [List.append_assoc]
        show tot b 8 (pre ++ (-1) :: l) = _
        rw [this]
        show sum + ((if (-1 : Int) = -1 then 0 else b (-1) (7 - k)) + tot b k l) = _
        rw [if_pos rfl]; omega
      · refine h m' T' (fun q g1 g2 g3 g4 => by rw [k1 q g1 g2 g3 g4, up_ne g2]) (fun j hj => by rw [k2 j hj, up_ne (by omega)]) (fun i g1 g2 => ?_) k4 k5
        rw [k3 i g1 (by omega), List.getD_eq_getElem?_getD, List.getElem?_append, if_pos (by omega), ← List.getD_eq_getElem?_getD]
    · rw [bI_0, u3, Classical.not_not] at q2
      rw [if_pos q2, fmr_8] at hms
      have loop : ∀ (r : Nat) (j : Int) (m1 : jM) (P1 T1 : List (List Int)), 0 ≤ j → j + r = 8 → (∀ q, q ≠ 103 → q ≠ 131 → q ≠ 133 → q ≠ 134 → m1 q = m q) → (∀ j, j ≠ 48 → m1 103 j = m 103 j) → (∀ i : Int, 0 ≤ i → i < c → m1 131 i = pre.getD i.toNat (-1)) → rSt m1 b T1 → Top (tot b 8) P1 T1 →
          P1 ++ (fmr (fun j => if bt set j = false ∧ o j c = true then (mts o C k (iOr set (iShl 1 j))).map (fun l => j :: l) else []) r j).map (fun l => pre ++ l) ++ R = mts o C 8 0 → aX11_walks_40 (d + k + 2) c set sum j m1 Q := by
        intro r
        induction r with
        | zero =>
          intro j m1 P1 T1 hj hr f0 f1 f2 f3 f4 f5
          refine gX11_walks_40 (d + k + 2) c set sum j m1 Q ⟨fun q => by omega, fun _ => ?_⟩
          refine h m1 T1 f0 f1 f2 f3 ?_
          have e9 : P1 = P ++ (mts o C (k + 1) set).map (fun l => pre ++ l) := by
            rw [show fmr (fun j => if bt set j = false ∧ o j c = true then (mts o C k (iOr set (iShl 1 j))).map (fun l => j :: l) else []) 0 j = [] from rfl, ← hall, List.map_nil, List.append_nil] at f5
            exact List.append_cancel_right f5
          rw [← e9]
          exact f4
        | succ r ihr =>
          intro j m1 P1 T1 hj hr f0 f1 f2 f3 f4 f5
          have ej : w32 (j + 1) = j + 1 := w32_id (by omega) (by omega)
          have hor := mk_or1 hs (k := j) ⟨by omega, by omega⟩
          have hor2 : 0 ≤ iOr set (iShl 1 j) ∧ iOr set (iShl 1 j) < 256 := hor
          have e3 : w32 (w32 (8 * j) + c) = 8 * j + c := by simp (disch := omega) only [w32_id]
          have e4 : w32 (w32 (w32 (c + 1) * 256) + iOr set (iShl 1 j)) = (8 - (k : Int)) * 256 + iOr set (iShl 1 j) := by
            simp (disch := omega) only [w32_id]; omega
          unfold fmr at f5
          rw [List.map_append, ← List.append_assoc] at f5
          have k129 := f0 128 (by omega) (by omega) (by omega) (by omega)
          have k130 := f0 129 (by omega) (by omega) (by omega) (by omega)
          have k131 := f0 130 (by omega) (by omega) (by omega) (by omega)
          have k105 := f0 104 (by omega) (by omega) (by omega) (by omega)
          have hL1 : rLT m1 := by
            unfold rLT rEn at hL ⊢
            rw [k129, k130, k131, k105]; exact hL
          have hlv := (hL k (by omega) _ hor).1
          rw [ho, hb, hC] at hlv
          have hoj : o j c = decide (m1 128 (8 * j + c) ≠ -1) := by rw [k129, ← ho]; rfl
          have hbj : b j c = m1 128 (8 * j + c) := by rw [k129, ← hb]; rfl
          have skip : (if bt set j = false ∧ o j c = true then (mts o C k (iOr set (iShl 1 j))).map (fun l => j :: l) else []) = [] → aX11_walks_40 (d + k + 2) c set sum (w32 (j + 1)) m1 Q := by
            intro hn
            rw [hn, List.map_nil, List.append_nil] at f5
            rw [ej]
            exact ihr (j + 1) m1 P1 T1 (by omega) (by omega) f0 f1 f2 f3 f4 f5
          refine gX11_walks_40 (d + k + 2) c set sum j m1 Q ⟨fun _ => ⟨fun q3 => skip ?_, fun q3 => ⟨by omega, fun q4 => skip ?_, fun q4 => ⟨by omega, by omega, fun q5 => skip ?_, fun q5 => ?_⟩⟩⟩, fun q => by omega⟩
          · rw [bt_shr (by omega)] at q3
            rw [if_neg (by rw [q3]; simp)]
          · rw [e3] at q4
            rw [if_neg (by rw [hoj, q4]; simp)]
          · rw [e4, k130, hlv] at q5
            have := (lc_mts (C := C) hB k (by omega) _ hor)
            rcases this with ⟨g, _⟩ | g
            · rw [g]; simp
            · have := g.1; have hF : dpF = 1125899906842624 := rfl; omega
          · rw [bt_shr (by omega)] at q3
            rw [e3] at q4
            rw [e4, k130, hlv] at q5
            rw [e3, e4, k130, hlv, ← hbj]
            have hgo : bt set j = false ∧ o j c = true := ⟨by simpa using q3, by rw [hoj]; simpa using q4⟩
            have hbr := hB j c (by omega) (by omega) (by omega) (by omega) hgo.2
            have hTr := dpt_r (h := 0) (C := C) hB k (by omega) _ hor
            have hx : 0 ≤ (dpt 0 o b C k (iOr set (iShl 1 j))).1 ∧ (dpt 0 o b C k (iOr set (iShl 1 j))).1 ≤ 1000000000 * k := by rcases hTr.1 with g | g; exact g; exact absurd g q5
            rw [w64_id (z := sum + b j c) (by omega) (by omega), w64_id (z := sum + b j c + _) (by omega) (by omega)]
            rw [if_pos hgo] at f5
            have e2 : ((mts o C k (iOr set (iShl 1 j))).map (fun l => j :: l)).map (fun l => pre ++ l) = (mts o C k (iOr set (iShl 1 j))).map (fun l => (pre ++ [j]) ++ l) := by
              rw [List.map_map]
              apply List.map_congr_left
              intro l _
              simp
            rw [e2] at f5
            have htot2 : ∀ l ∈ mts o C k (iOr set (iShl 1 j)), tot b 8 ((pre ++ [j]) ++ l) = (sum + b j c) + tot b k l := by
              intro l hl
              have hmem : j :: l ∈ mts o C (k + 1) set := by
                rw [hms, ← fmr_8, fm_mem]
                refine ⟨j.toNat, by omega, ?_⟩
                rw [Int.toNat_of_nonneg hj, if_pos hgo]
                exact List.mem_map.mpr ⟨l, hl, rfl⟩
              have := htot _ hmem
              rw [List.append_assoc]
              show tot b 8 (pre ++ j :: l) = _
              rw [this]
              show sum + ((if j = -1 then 0 else b j (7 - k)) + tot b k l) = _
              rw [if_neg (by omega), e7]
              omega
            have walk : aX11_walks_153 (d + k + 2) c set sum j (sum + b j c) m1 Q := by
              obtain ⟨u1, u2, u3, u4, u5, u6⟩ := upm m1 j f0 hL1 T1 f3 f2
              refine gX11_walks_153 (d + k + 2) c set sum j _ m1 Q ⟨hc7, ?_⟩
              rw [ec]
              refine ih (pre := pre ++ [j]) (P := P1) (T := T1) (by omega) (by rw [List.length_append]; simp; omega) hor u6 (by rw [List.append_assoc] at f5; exact f5) htot2 (by omega) u1 u2 u3 u4 u5 f4 (fun m' T' k1 k2 k3 k4 k5 => ?_)
              rw [ej]
              refine ihr (j + 1) m' _ T' (by omega) (by omega) (fun q g1 g2 g3 g4 => by rw [k1 q g1 g2 g3 g4, up_ne g2]; exact f0 q g1 g2 g3 g4) (fun i hi => by rw [k2 i hi, up_ne (by omega)]; exact f1 i hi) (fun i g1 g2 => ?_) k4 k5 f5
              rw [k3 i g1 (by omega), List.getD_eq_getElem?_getD, List.getElem?_append, if_pos (by omega), ← List.getD_eq_getElem?_getD]
            refine ⟨fun q6 => ⟨by omega, fun _ => walk, fun q7 => ?_⟩, fun _ => walk⟩
            rw [ej]
            refine ihr (j + 1) m1 _ T1 (by omega) (by omega) f0 f1 f2 f3 ?_ f5
            rw [f3.1] at q6
            have hpw := mts_pw o C 8 0
            rw [← f5, List.append_assoc, List.pairwise_append, List.pairwise_append] at hpw
            refine top_skip f4 (Or.inr (by omega)) (fun x hx2 y hy => ⟨?_, hpw.1.2.2 y (f4.2.1 y hy) x hx2⟩)
            obtain ⟨l, hl, rfl⟩ := List.mem_map.mp hx2
            rw [htot2 l hl]
            have hlc := lc_mts (C := C) hB k (by omega) _ hor
            have hle : (dpt 0 o b C k (iOr set (iShl 1 j))).1 ≤ tot b k l := by
              rcases hlc with ⟨g, _⟩ | g
              · rw [g] at hl; cases hl
              · exact g.2.1 l hl
            have h11 := (f3.2 11 (by omega) (by omega)).1
            rw [h11] at q7
            have hle2 : tot b 8 y ≤ tot b 8 (T1.getD 11 []) := by
              obtain ⟨i, hi, rfl⟩ := List.getElem_of_mem hy
              have e11 : T1.getD 11 [] = T1[11]'(by omega) := by rw [List.getD_eq_getElem?_getD, List.getElem?_eq_getElem (by omega)]; rfl
              rw [e11]
              by_cases he : i = 11
              · subst he; exact Int.le_refl _
              · exact ltk_le (srt_get f4.1 (by omega) (by omega))
            have e12 : (11 : Int).toNat = 11 := rfl
            rw [e12] at q7
            omega
      have := loop 8 0 (jUp m 131 c (-1)) P T (by omega) (by omega) (fun q g1 g2 g3 g4 => by rw [up_ne g2]) (fun j hj => by rw [up_ne (by omega)]) (fun i g1 g2 => by rw [up_oth (by omega)]; exact hp i g1 g2) u5 htop (by rw [← hms]; exact hall)
      exact this
theorem s_lists {d : Nat} {m : jM} {Q : Int → jM → Prop} (hB : dpB (rO (m 128)) (rB (m 128)))
    (h : ∀ (m' : jM) (T : List (List Int)), (∀ q, q ≠ 103 → q ≠ 129 → q ≠ 130 → q ≠ 131 → q ≠ 133 → q ≠ 134 → m' q = m q) → (∀ j, j ≠ 48 → m' 103 j = m 103 j) → rSt m' (rB (m 128)) T → Top (tot (rB (m 128)) 8) (mts (rO (m 128)) (rC (m 104)) 8 0) T → Q 0 m') : jK (d + 12) zX11_lists [jO 11 103] m Q := by
  refine gX11_lists (d + 11) m Q (jK_deep (show (d + 9) + 2 ≤ d + 11 by omega) (s_least (by rw [up_ne (by omega)]; exact hB) (fun m1 f1 hL => ⟨fun q => ?_, fun q => ?_⟩)))
  all_goals
    have k104 := f1 103 (by omega) (by omega)
    have k129 : m1 128 = m 128 := by rw [f1 128 (by omega) (by omega), up_ne (by omega)]
    have k105 : m1 104 = m 104 := by rw [f1 104 (by omega) (by omega), up_ne (by omega)]
    have h0 := (hL 8 (Nat.le_refl _) 0 mk_0).1
    rw [show (8 - ((8 : Nat) : Int)) * 256 + 0 = 0 by omega, k129, k105] at h0
    have hlc := lc_mts (C := rC (m 104)) hB 8 (Nat.le_refl _) 0 mk_0
    rw [h0] at q
    have hst : rSt m1 (rB (m 128)) [] := ⟨by rw [k104, up_same]; rfl, fun i g1 g2 => by simp at g2; omega⟩
  · rcases hlc with ⟨g, _⟩ | g
    · refine h m1 [] (fun q g1 g2 g3 g4 g5 g6 => by rw [f1 q g2 g3, up_ne g1]) (fun j hj => by rw [k104, up_oth hj]) hst ?_
      rw [g]; exact top_nil _
    · have := g.1; have hF : dpF = 1125899906842624 := rfl; omega
  · refine jK_deep (show (d + 1) + 8 + 2 ≤ d + 11 by omega) (s_walks (pre := []) (P := []) (R := []) (T := []) hB (d + 1) 8 (by omega) rfl mk_0 (fun i g1 g2 => by omega) (by simp) (fun l hl => by simp) (by omega) (by rw [k129]) (by rw [k129]) (by rw [k105]) hL hst (top_nil _) (fun m' T k1 k2 k3 k4 k5 => ?_))
    refine h m' T (fun q g1 g2 g3 g4 g5 g6 => by rw [k1 q g1 g4 g5 g6, f1 q g2 g3, up_ne g1]) (fun j hj => by rw [k2 j hj, k104, up_oth hj]) k4 ?_
    simpa using k5
