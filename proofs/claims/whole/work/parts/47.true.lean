/-! the start keeps the invariant; the law is true -/
theorem ini_el {F b c : Nat} {S : gk_S} (h : ini F = some (b, c, S)) : xJ S = (fun _ _ => 0) ∧ (∀ a, gP S 912 b ≠ some a → gP S 913 b ≠ some a → xI S a = fun _ => 0) ∧ ∀ X, f_L_law X F gk_S0 = f_L_law_23 X F 513 0 b c 0 S := by
  unfold ini at h
  obtain ⟨h0, k1⟩ := qk_el h
  obtain ⟨x, S10, h1, k2⟩ := qc_el k1
  obtain ⟨h2, k3⟩ := qk_el k2
  obtain ⟨y, S22, h3, k4⟩ := qc_el k3
  obtain ⟨h4, k5⟩ := qk_el k4
  clear h k1 k2 k3 k4
  injection k5 with k6
  injection k6 with e1 k7
  injection k7 with e2 e3
  have a := Pr_X11 0 x S10 h1
  have b := Pm_X12 y S22 h3
  subst e1
  subst e2
  subst e3
  refine ⟨b.1.trans a.2, fun a' p q => ?_, fun X => ?_⟩
  · have e1 := b.2 a' p q
    have e2 : xI (nK S10 9 0) = xI S10 := rfl
    have e3 : xI (nK S22 12 1) = xI S22 := rfl
    rw [e3, e1, e2, a.1]
    rfl
  · unfold f_L_law
    have g0 : gk_n gk_S0 = 0 := rfl
    rw [h0, qk_true, qv_eq, g0, qv_eq, h1, qc_some', h2, qk_true, qv_eq, qv_eq, h3, qc_some', h4, qk_true, qv_eq, qv_eq]
theorem ck_el {F : Nat} (h : ck F = true) : ∃ S, ini F = some (352, 372, S) ∧ ckP S = true := by
  unfold ck at h
  cases e : ini F with
  | none => rw [e] at h; cases h
  | some v =>
    obtain ⟨b, c, S⟩ := v
    rw [e] at h
    simp only [Bool.and_eq_true, decide_eq_true_eq] at h
    obtain ⟨⟨rfl, rfl⟩, h⟩ := h
    exact ⟨S, rfl, h⟩
theorem Inv_0 {S : gk_S} (h : ckP S = true) (hJ : xJ S = fun _ _ => 0) (hI : ∀ a, gP S 912 352 ≠ some a → gP S 913 352 ≠ some a → xI S a = fun _ => 0) : Inv S 0 := by
  unfold ckP at h
  simp only [Bool.and_eq_true, decide_eq_true_eq] at h
  obtain ⟨⟨⟨⟨⟨⟨⟨⟨⟨⟨⟨⟨c1, c2⟩, c3⟩, c4⟩, c5⟩, c6⟩, c7⟩, c8⟩, c9⟩, c10⟩, c11⟩, c12⟩, c13⟩ := h
  have al : ∀ {n : Nat} {p : Nat → Bool}, (List.range n).all p = true → ∀ i, i < n → p i = true := fun q i hi => List.all_eq_true.mp q i (List.mem_range.mpr hi)
  have hs : Sh S := by
    refine ⟨c1, fun a ha => ?_, fun q hq => of_decide_eq_true (List.all_eq_true.mp c3 q hq), fun k hk => ?_, fun i hi => ?_⟩
    · have := al c2 a ha
      simp only [Bool.and_eq_true, decide_eq_true_eq] at this
      exact this
    · have := al c4 k hk
      simp only [Bool.and_eq_true, decide_eq_true_eq] at this
      refine ⟨this.1, fun i hi => ?_⟩
      have := al this.2 i hi
      simp only [Bool.and_eq_true, decide_eq_true_eq] at this
      exact ⟨this.1.1, this.1.2, this.2⟩
    · have := al c5 i hi
      simp only [Bool.and_eq_true, decide_eq_true_eq] at this
      exact this
  have z : ∀ f a, (f, a) ∈ z0 → gI S f a = 0 := fun f a q => of_decide_eq_true (List.all_eq_true.mp c6 (f, a) q)
  have r : ∀ a, a ≠ 361 → a ≠ 362 → xI S a = fun _ => 0 := fun a p q => hI a (by rw [z_p912_352 hs]; intro e; injection e with e; exact p e.symm) (by rw [z_p913_352 hs]; intro e; injection e with e; exact q e.symm)
  refine ⟨hs, ⟨0, by omega, z _ _ (by decide), z _ _ (by decide), ?_, fun i => ?_⟩, ⟨0, by omega, z _ _ (by decide), z _ _ (by decide), ?_⟩, ⟨?_, ?_, Or.inl (z _ _ (by decide)), fun i hi => ?_⟩, fun w hw => ?_, ?_, ?_, ?_, ⟨0, Nat.le_refl _, c13, fun i hi => ⟨0, by omega, ?_⟩⟩⟩
  · rw [r 353 (by decide) (by decide), r 2 (by decide) (by decide)]
  · rw [r 2 (by decide) (by decide)]; show b8 0 = 0; decide
  · rw [r 363 (by decide) (by decide), r 4 (by decide) (by decide)]
  · rw [z 812 0 (by decide), z 918 352 (by decide)]
  · rw [z 811 0 (by decide), z 925 352 (by decide)]
  · rw [hJ]
  · have := al c9 w hw
    simp only [Bool.and_eq_true, decide_eq_true_eq] at this
    exact this
  · have zk : ∀ k, k < 4 → gI S 401 (6 + 50 * k) = 0 ∧ gI S 402 (6 + 50 * k) = 0 ∧ gI S 403 (6 + 50 * k) = 0 := by
      intro k hk
      have : k = 0 ∨ k = 1 ∨ k = 2 ∨ k = 3 := by omega
      rcases this with rfl | rfl | rfl | rfl <;> exact ⟨z _ _ (by decide), z _ _ (by decide), z _ _ (by decide)⟩
    refine ⟨fun k => 6 + 50 * k, fun _ => (0, 0, fun _ => wR 0), fun k hk => ⟨k, hk, rfl⟩, fun j k _ _ e => ?_, fun k hk => of_decide_eq_true (al c10 k hk), c11, fun k hk => ⟨⟨Nat.zero_le _, by show 0 < 3; decide, fun i hi => absurd hi (Nat.not_lt_zero i)⟩, ⟨(zk k hk).1, (zk k hk).2.1, fun i hi => absurd hi (Nat.not_lt_zero i)⟩, ?_, ?_, fun i hi => absurd hi (Nat.not_lt_zero i)⟩, fun k hk => ⟨?_, fun i hi => absurd hi (Nat.not_lt_zero i)⟩⟩
    · have e' : 6 + 50 * j = 6 + 50 * k := e
      omega
    · rw [r 355 (by decide) (by decide)]; rfl
    · rw [r 354 (by decide) (by decide)]; rfl
    · rw [(zk k hk).2.2, r 360 (by decide) (by decide)]
      by_cases q : k = 0
      · rw [if_pos q]
      · rw [if_neg q]
  · refine ⟨fun i => 281 + i, fun _ _ => 0, 0, 8, 0, by omega, by omega, by omega, by omega, z _ _ (by decide), z _ _ (by decide), c7, c8, z _ _ (by decide), z _ _ (by decide), ?_, ?_, ?_, fun i hi => ⟨of_decide_eq_true (al c12 i hi), by show 281 ≤ 281 + i; omega, by show 281 + i < 345; omega⟩, fun i j _ _ e => ?_, fun i hi => absurd hi (Nat.not_lt_zero i)⟩
    · rw [z 604 279 (by decide), z 936 352 (by decide)]
    · rw [z 605 279 (by decide), z 937 352 (by decide)]
    · rw [z 813 0 (by decide), z 935 352 (by decide)]
    · have e' : 281 + i = 281 + j := e
      omega
  · refine ⟨fun _ => 0, ⟨by decide, by decide, by decide, by decide, by decide, by decide, by decide⟩, fun f _ => by rw [hJ]; rfl, z _ _ (by decide), fun f _ => by rw [r 370 (by decide) (by decide)]; rfl⟩
  · rw [hJ]; rfl
theorem law_true : ∀ X : gk_X, X.sl ≤ 4608 → ∃ F S', f_L_law X F gk_S0 = some (1, S') := by
  intro X hX
  obtain ⟨S, e1, e2⟩ := ck_el ck_1
  obtain ⟨hJ, hI, hl⟩ := ini_el e1
  obtain ⟨S', h⟩ := law_loop (X := X) (F := 17000) hX (by omega) 512 0 0 S (Inv_0 e2 hJ hI) (by omega) (by omega) (by omega)
  exact ⟨17000, S', by rw [hl X]; exact h⟩
