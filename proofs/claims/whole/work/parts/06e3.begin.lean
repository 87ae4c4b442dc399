def nbS (S : gk_S) (q : Nat) (c : Nat → Nat) (n : Nat) : gk_S := sI (sI (bgS S q c) 8 q (nI (c 8))) 601 279 (nI (n + 1))
theorem Sh_bgS {S : gk_S} (h : Sh S) (q : Nat) (c : Nat → Nat) : Sh (bgS S q c) := Sh_sI (Sh_sI (Sh_sI (Sh_sJ (Sh_sJ (Sh_sJ (Sh_sJ (Sh_sI h _ _ _) _ _ _) _ _ _) _ _ _) _ _ _) _ _ _) _ _ _) _ _ _
theorem rd_eq (S : gk_S) (f a : Nat) (v : Int32) : gI (sI S f a v) f a = v := by
  rw [gI_sI, if_pos ⟨Eq.refl f, Eq.refl a⟩]
theorem rd_ne (S : gk_S) {f a : Nat} (v : Int32) {j b : Nat} (h : j ≠ f ∨ b ≠ a) : gI (sI S f a v) j b = gI S j b := by
  rw [gI_sI, if_neg (fun e => h.elim (fun q => q e.1) (fun q => q e.2))]
theorem rd_J (S : gk_S) (f a : Nat) (v : Int64) (j b : Nat) : gI (sJ S f a v) j b = gI S j b := by
  have e : gI (sJ S f a v) = gI S := gI_sJ S f a v
  exact congrFun (congrFun e j) b
theorem rj_eq (S : gk_S) (f a : Nat) (v : Int64) : gJ (sJ S f a v) f a = v := by
  rw [gJ_sJ, if_pos ⟨Eq.refl f, Eq.refl a⟩]
theorem rj_ne (S : gk_S) {f a : Nat} (v : Int64) {j b : Nat} (h : j ≠ f ∨ b ≠ a) : gJ (sJ S f a v) j b = gJ S j b := by
  rw [gJ_sJ, if_neg (fun e => h.elim (fun q => q e.1) (fun q => q e.2))]
theorem rj_I (S : gk_S) (f a : Nat) (v : Int32) (j b : Nat) : gJ (sI S f a v) j b = gJ S j b := by
  have e : gJ (sI S f a v) = gJ S := gJ_sI S f a v
  exact congrFun (congrFun e j) b
theorem bg_0 (S : gk_S) (q : Nat) (c : Nat → Nat) : gI (bgS S q c) 0 q = nI (c 0) := by
  unfold bgS
  rw [rd_ne _ _ (Or.inl (by decide)), rd_ne _ _ (Or.inl (by decide)), rd_ne _ _ (Or.inl (by decide)), rd_J, rd_J, rd_J, rd_J, rd_eq]
theorem bg_5 (S : gk_S) (q : Nat) (c : Nat → Nat) : gI (bgS S q c) 5 q = nI (c 5) := by
  unfold bgS
  rw [rd_ne _ _ (Or.inl (by decide)), rd_ne _ _ (Or.inl (by decide)), rd_eq]
theorem bg_6 (S : gk_S) (q : Nat) (c : Nat → Nat) : gI (bgS S q c) 6 q = 0 := by
  unfold bgS
  rw [rd_ne _ _ (Or.inl (by decide)), rd_eq]
theorem bg_7 (S : gk_S) (q : Nat) (c : Nat → Nat) : gI (bgS S q c) 7 q = 0 := by
  unfold bgS
  rw [rd_eq]
theorem bg_f (S : gk_S) (q : Nat) (c : Nat → Nat) {f : Nat} (hf : 9 ≤ f) (b : Nat) : gI (bgS S q c) f b = gI S f b := by
  unfold bgS
  rw [rd_ne _ _ (Or.inl (by omega)), rd_ne _ _ (Or.inl (by omega)), rd_ne _ _ (Or.inl (by omega)), rd_J, rd_J, rd_J, rd_J, rd_ne _ _ (Or.inl (by omega))]
theorem bg_q (S : gk_S) (q : Nat) (c : Nat → Nat) (f : Nat) {b : Nat} (hb : b ≠ q) : gI (bgS S q c) f b = gI S f b := by
  unfold bgS
  rw [rd_ne _ _ (Or.inr hb), rd_ne _ _ (Or.inr hb), rd_ne _ _ (Or.inr hb), rd_J, rd_J, rd_J, rd_J, rd_ne _ _ (Or.inr hb)]
theorem bj_1 (S : gk_S) (q : Nat) (c : Nat → Nat) : gJ (bgS S q c) 1 q = lN (c 1) := by
  unfold bgS
  rw [rj_I, rj_I, rj_I, rj_ne _ _ (Or.inl (by decide)), rj_ne _ _ (Or.inl (by decide)), rj_ne _ _ (Or.inl (by decide)), rj_eq]
theorem bj_2 (S : gk_S) (q : Nat) (c : Nat → Nat) : gJ (bgS S q c) 2 q = lN (c 2) := by
  unfold bgS
  rw [rj_I, rj_I, rj_I, rj_ne _ _ (Or.inl (by decide)), rj_ne _ _ (Or.inl (by decide)), rj_eq]
theorem bj_3 (S : gk_S) (q : Nat) (c : Nat → Nat) : gJ (bgS S q c) 3 q = lN (c 3) := by
  unfold bgS
  rw [rj_I, rj_I, rj_I, rj_ne _ _ (Or.inl (by decide)), rj_eq]
theorem bj_4 (S : gk_S) (q : Nat) (c : Nat → Nat) : gJ (bgS S q c) 4 q = lN (c 4) := by
  unfold bgS
  rw [rj_I, rj_I, rj_I, rj_eq]
theorem bj_q (S : gk_S) (q : Nat) (c : Nat → Nat) (f : Nat) {b : Nat} (hb : b ≠ q) : gJ (bgS S q c) f b = gJ S f b := by
  unfold bgS
  rw [rj_I, rj_I, rj_I, rj_ne _ _ (Or.inr hb), rj_ne _ _ (Or.inr hb), rj_ne _ _ (Or.inr hb), rj_ne _ _ (Or.inr hb), rj_I]
