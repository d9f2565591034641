theorem scan_ok0 {W H : Nat} {g : Nat → Bool} {src : Nat} (k : okW W H) (hs : src < W * H) : ∀ t, src + t < W * H → okY W H g src 0 t (scan W H g src 0 t) := by
  intro t
  induction t with
  | zero =>
    intro _
    refine ⟨rfl, rfl, fun j hj => ?_, fun j hj => absurd hj (Nat.not_lt_zero j), Nat.le_refl _, fun c hc => absurd hc (Nat.not_lt_zero c), fun c d _ hd => absurd hd (Nat.not_lt_zero d), fun j h1 h2 _ => ?_, fun _ => rfl, fun q h1 h2 => ?_⟩
    · have e : j = 0 := Nat.le_zero.mp hj
      subst e
      exact ⟨hs, by rw [if_pos rfl]; exact ⟨Nat.le_refl _, Nat.le_refl _⟩⟩
    · have : j ≤ 0 := h2
      omega
    · omega
  | succ t ih =>
    intro ht
    obtain ⟨h1, h2, h3, h4, h5, h6, h7, h8, h9, h10⟩ := ih (by omega)
    have elb : lbN src 0 (t + 1) = src + (t + 1) := by rw [lbN, if_pos rfl]
    show okY W H g src 0 (t + 1) (sc1 W H g (lbN src 0 (t + 1)) (scan W H g src 0 t))
    generalize hq : scan W H g src 0 t = q at h1 h2 h3 h4 h5 h6 h7 h8 h9 h10
    obtain ⟨at', n, P, c, G⟩ := q
    dsimp only at h1 h2 h3 h4 h5 h6 h7 h8 h9 h10
    simp only [if_true] at h3 h4 h10
    rw [elb]
    by_cases hg : g (src + (t + 1)) = true
    · rw [sc1, if_pos hg]
      have hat := h3 n (Nat.le_refl _)
      rw [← h1] at hat
      have hlb : src + (t + 1) < W * H := ht
      have hne : at' ≠ src + (t + 1) := by omega
      have hup := itr_up k hat.1 hlb (by omega)
      have hfp := far_pos k hat.1 hlb hne
      generalize hf : far W H at' (src + (t + 1)) = f at hup hfp
      have hfar : itr W H (src + (t + 1)) at' f = src + (t + 1) := by rw [← hf]; exact itr_far k hat.1 hlb
      have hP : ∀ j, n ≤ j → (if j ≤ n then P j else itr W H (src + (t + 1)) at' (j - n)) = itr W H (src + (t + 1)) at' (j - n) := by
        intro j hj
        by_cases e : j ≤ n
        · have : j = n := by omega
          subst this
          rw [if_pos (Nat.le_refl _), Nat.sub_self, ← h1]
          rfl
        · rw [if_neg e]
      refine ⟨?_, ?_, fun j hj => ?_, fun j hj => ?_, ?_, fun c' hc' => ?_, fun c' d hcd hd => ?_, fun j hj1 hj2 hgj => ?_, fun hc' => ?_, fun q hq1 hq2 hgq => ?_⟩
      · dsimp only
        rw [hP _ (by omega), show n + f - n = f by omega, hfar]
      · dsimp only
        rw [if_pos (Nat.zero_le _), h2]
      · dsimp only at hj ⊢
        by_cases e : j ≤ n
        · rw [if_pos e]
          have := h3 j e
          exact ⟨this.1, by rw [if_pos rfl]; omega⟩
        · rw [if_neg e]
          obtain ⟨u1, u2, u3, u4⟩ := hup (j - n) (by omega)
          have hn0 := h3 n (Nat.le_refl _)
          rw [← h1] at hn0
          exact ⟨by omega, by rw [if_pos rfl]; omega⟩
      · dsimp only at hj ⊢
        rw [if_pos rfl]
        by_cases e : j < n
        · rw [if_pos (by omega), if_pos (by omega)]
          exact h4 j e
        · rw [hP j (by omega), hP (j + 1) (by omega), show j + 1 - n = (j - n) + 1 by omega]
          obtain ⟨u1, u2, u3, u4⟩ := hup (j - n) (by omega)
          obtain ⟨u5, u6⟩ := u4 (by omega)
          refine ⟨u6, ?_⟩
          exact (fin_nxt k (u := itr W H (src + (t + 1)) at' (j - n)) (by omega) hlb (by omega)).2.2.2
      · dsimp only; omega
      · dsimp only at hc' ⊢
        by_cases e : c' = c
        · subst e
          have eG : upN G c' (n + f) c' = n + f := by simp [upN]
          rw [eG]
          refine ⟨by omega, Nat.le_refl _, ?_⟩
          rw [hP _ (by omega), show n + f - n = f by omega, hfar]
          exact hg
        · have eG : upN G c (n + f) c' = G c' := by simp [upN, e]
          rw [eG]
          obtain ⟨u1, u2, u3⟩ := h6 c' (by omega)
          exact ⟨u1, by omega, by rw [if_pos u2]; exact u3⟩
      · dsimp only at hd ⊢
        have e1 : upN G c (n + f) c' = G c' := by simp [upN, show c' ≠ c by omega]
        rw [e1]
        by_cases e : d = c
        · subst e
          have eG : upN G d (n + f) d = n + f := by simp [upN]
          rw [eG]
          have := h6 c' (by omega)
          omega
        · have eG : upN G c (n + f) d = G d := by simp [upN, e]
          rw [eG]
          exact h7 c' d hcd (by omega)
      · dsimp only at hj2 hgj ⊢
        by_cases e : j ≤ n
        · rw [if_pos e] at hgj
          obtain ⟨c', hc', e2⟩ := h8 j hj1 e hgj
          exact ⟨c', by omega, by simp [upN, show c' ≠ c by omega, e2]⟩
        · by_cases e2 : j = n + f
          · exact ⟨c, by omega, by simp [upN, e2]⟩
          · exfalso
            rw [if_neg e] at hgj
            obtain ⟨u1, u2, u3, u4⟩ := hup (j - n) (by omega)
            obtain ⟨u5, u6⟩ := u4 (by omega)
            have hb := h10 (itr W H (src + (t + 1)) at' (j - n) - src) (by omega) (by omega) (by rw [lbN, if_pos rfl, show src + (itr W H (src + (t + 1)) at' (j - n) - src) = itr W H (src + (t + 1)) at' (j - n) by omega]; exact hgj)
            rw [lbN, if_pos rfl] at hb
            omega
      · dsimp only at hc'; omega
      · dsimp only
        rw [if_pos rfl, lbN, if_pos rfl]
        omega
    · rw [sc1, if_neg hg]
      refine ⟨h1, h2, fun j hj => ?_, fun j hj => ?_, h5, h6, h7, h8, h9, fun q hq1 hq2 hgq => ?_⟩
      · have := h3 j hj
        exact ⟨this.1, by rw [if_pos rfl]; dsimp only; omega⟩
      · rw [if_pos rfl]
        exact h4 j hj
      · rw [if_pos rfl]
        by_cases e : q = t + 1
        · subst e
          rw [elb] at hgq
          exact absurd hgq hg
        · exact h10 q hq1 (by omega) hgq
theorem scan_ok1 {W H : Nat} {g : Nat → Bool} {src : Nat} (k : okW W H) (hs : src < W * H) : ∀ t, t ≤ src → okY W H g src 1 t (scan W H g src 1 t) := by
  intro t
  induction t with
  | zero =>
    intro _
    refine ⟨rfl, rfl, fun j hj => ?_, fun j hj => absurd hj (Nat.not_lt_zero j), Nat.le_refl _, fun c hc => absurd hc (Nat.not_lt_zero c), fun c d _ hd => absurd hd (Nat.not_lt_zero d), fun j h1 h2 _ => ?_, fun _ => rfl, fun q h1 h2 => ?_⟩
    · have e : j = 0 := Nat.le_zero.mp hj
      subst e
      exact ⟨hs, by rw [if_neg (by decide)]; exact ⟨Nat.le_refl _, Nat.le_refl _⟩⟩
    · have : j ≤ 0 := h2
      omega
    · omega
  | succ t ih =>
    intro ht
    obtain ⟨h1, h2, h3, h4, h5, h6, h7, h8, h9, h10⟩ := ih (by omega)
    have elb : lbN src 1 (t + 1) = src - (t + 1) := by rw [lbN, if_neg (by decide)]
    show okY W H g src 1 (t + 1) (sc1 W H g (lbN src 1 (t + 1)) (scan W H g src 1 t))
    generalize hq : scan W H g src 1 t = q at h1 h2 h3 h4 h5 h6 h7 h8 h9 h10
    obtain ⟨at', n, P, c, G⟩ := q
    dsimp only at h1 h2 h3 h4 h5 h6 h7 h8 h9 h10
    simp only [show ¬ (1 : Nat) = 0 by decide, if_false] at h3 h4 h10
    rw [elb]
    by_cases hg : g (src - (t + 1)) = true
    · rw [sc1, if_pos hg]
      have hat := h3 n (Nat.le_refl _)
      rw [← h1] at hat
      have hlb : src - (t + 1) < W * H := by omega
      have hne : at' ≠ src - (t + 1) := by omega
      have hup := itr_dn k hat.1 hlb (by omega)
      have hfp := far_pos k hat.1 hlb hne
      generalize hf : far W H at' (src - (t + 1)) = f at hup hfp
      have hfar : itr W H (src - (t + 1)) at' f = src - (t + 1) := by rw [← hf]; exact itr_far k hat.1 hlb
      have hP : ∀ j, n ≤ j → (if j ≤ n then P j else itr W H (src - (t + 1)) at' (j - n)) = itr W H (src - (t + 1)) at' (j - n) := by
        intro j hj
        by_cases e : j ≤ n
        · have : j = n := by omega
          subst this
          rw [if_pos (Nat.le_refl _), Nat.sub_self, ← h1]
          rfl
        · rw [if_neg e]
      refine ⟨?_, ?_, fun j hj => ?_, fun j hj => ?_, ?_, fun c' hc' => ?_, fun c' d hcd hd => ?_, fun j hj1 hj2 hgj => ?_, fun hc' => ?_, fun q hq1 hq2 hgq => ?_⟩
      · dsimp only
        rw [hP _ (by omega), show n + f - n = f by omega, hfar]
      · dsimp only
        rw [if_pos (Nat.zero_le _), h2]
      · dsimp only at hj ⊢
        by_cases e : j ≤ n
        · rw [if_pos e]
          have := h3 j e
          exact ⟨this.1, by rw [if_neg (by decide)]; omega⟩
        · rw [if_neg e]
          obtain ⟨u1, u2, u3, u4⟩ := hup (j - n) (by omega)
          have hn0 := h3 n (Nat.le_refl _)
          rw [← h1] at hn0
          exact ⟨by omega, by rw [if_neg (by decide)]; omega⟩
      · dsimp only at hj ⊢
        rw [if_neg (by decide)]
        by_cases e : j < n
        · rw [if_pos (by omega), if_pos (by omega)]
          exact h4 j e
        · rw [hP j (by omega), hP (j + 1) (by omega), show j + 1 - n = (j - n) + 1 by omega]
          obtain ⟨u1, u2, u3, u4⟩ := hup (j - n) (by omega)
          obtain ⟨u5, u6⟩ := u4 (by omega)
          refine ⟨u6, ?_⟩
          exact (fin_nxt k (u := itr W H (src - (t + 1)) at' (j - n)) (by omega) hlb (by omega)).2.2.2
      · dsimp only; omega
      · dsimp only at hc' ⊢
        by_cases e : c' = c
        · subst e
          have eG : upN G c' (n + f) c' = n + f := by simp [upN]
          rw [eG]
          refine ⟨by omega, Nat.le_refl _, ?_⟩
          rw [hP _ (by omega), show n + f - n = f by omega, hfar]
          exact hg
        · have eG : upN G c (n + f) c' = G c' := by simp [upN, e]
          rw [eG]
          obtain ⟨u1, u2, u3⟩ := h6 c' (by omega)
          exact ⟨u1, by omega, by rw [if_pos u2]; exact u3⟩
      · dsimp only at hd ⊢
        have e1 : upN G c (n + f) c' = G c' := by simp [upN, show c' ≠ c by omega]
        rw [e1]
        by_cases e : d = c
        · subst e
          have eG : upN G d (n + f) d = n + f := by simp [upN]
          rw [eG]
          have := h6 c' (by omega)
          omega
        · have eG : upN G c (n + f) d = G d := by simp [upN, e]
          rw [eG]
          exact h7 c' d hcd (by omega)
      · dsimp only at hj2 hgj ⊢
        by_cases e : j ≤ n
        · rw [if_pos e] at hgj
          obtain ⟨c', hc', e2⟩ := h8 j hj1 e hgj
          exact ⟨c', by omega, by simp [upN, show c' ≠ c by omega, e2]⟩
        · by_cases e2 : j = n + f
          · exact ⟨c, by omega, by simp [upN, e2]⟩
          · exfalso
            rw [if_neg e] at hgj
            obtain ⟨u1, u2, u3, u4⟩ := hup (j - n) (by omega)
            obtain ⟨u5, u6⟩ := u4 (by omega)
            have hb := h10 (src - itr W H (src - (t + 1)) at' (j - n)) (by omega) (by omega) (by rw [lbN, if_neg (by decide), show src - (src - itr W H (src - (t + 1)) at' (j - n)) = itr W H (src - (t + 1)) at' (j - n) by omega]; exact hgj)
            rw [lbN, if_neg (by decide)] at hb
            omega
      · dsimp only at hc'; omega
      · dsimp only
        rw [if_neg (by decide), lbN, if_neg (by decide)]
        omega
    · rw [sc1, if_neg hg]
      refine ⟨h1, h2, fun j hj => ?_, fun j hj => ?_, h5, h6, h7, h8, h9, fun q hq1 hq2 hgq => ?_⟩
      · have := h3 j hj
        exact ⟨this.1, by rw [if_neg (by decide)]; dsimp only; omega⟩
      · rw [if_neg (by decide)]
        exact h4 j hj
      · rw [if_neg (by decide)]
        by_cases e : q = t + 1
        · subst e
          rw [elb] at hgq
          exact absurd hgq hg
        · exact h10 q hq1 (by omega) hgq
theorem scan_ok {W H : Nat} {g : Nat → Bool} {src side : Nat} (k : okW W H) (hs : src < W * H) (hside : side < 2) {t : Nat} (ht : t ≤ tot (W * H) src side) : okY W H g src side t (scan W H g src side t) := by
  rcases (show side = 0 ∨ side = 1 by omega) with rfl | rfl
  · rw [tot, if_pos rfl] at ht
    exact scan_ok0 k hs t (by omega)
  · rw [tot, if_neg (by decide)] at ht
    exact scan_ok1 k hs t ht
