/-! the class's draft while it is read -/
theorem rw_eq (S : gk_S) (a : Nat) {i : Nat} (hi : i < 2 ^ 31) (v : Int64) (j : Nat) : xJ (wJ S a (nI i) v) a j = if j = i then v else xJ S a j := by
  rw [xJ_wJ, if_pos rfl, nI_clamp hi]
  rfl
theorem rw_ne (S : gk_S) (a : Nat) (i : Int32) (v : Int64) {c : Nat} (h : c ≠ a) : xJ (wJ S a i v) c = xJ S c := by rw [xJ_wJ, if_neg h]
def DF (r : Nat) (S T : gk_S) : Prop := gk_n T = gk_n S ∧ gk_K T = gk_K S ∧ gL T = gL S ∧ (∀ f a, ¬ (701 ≤ f ∧ f ≤ 710) → ¬ (r ≤ a ∧ a < r + 50) → gI T f a = gI S f a) ∧ (∀ f a, ¬ (701 ≤ f ∧ f ≤ 710) → gJ T f a = gJ S f a) ∧ gP T = gP S ∧ xI T = xI S ∧ (∀ a, ¬ (r ≤ a ∧ a < r + 50) → xJ T a = xJ S a) ∧ xP T = xP S
section DRF
variable {S T U : gk_S} {r : Nat}
theorem DF_refl : DF r S S := ⟨rfl, rfl, rfl, fun _ _ _ _ => rfl, fun _ _ _ => rfl, rfl, rfl, fun _ _ => rfl, rfl⟩
theorem DF_trans (h : DF r S T) (g : DF r T U) : DF r S U := by
  obtain ⟨a1, a2, a3, a4, a5, a6, a7, a8, a9⟩ := h
  obtain ⟨b1, b2, b3, b4, b5, b6, b7, b8, b9⟩ := g
  exact ⟨b1.trans a1, b2.trans a2, b3.trans a3, fun f a q p => (b4 f a q p).trans (a4 f a q p), fun f a q => (b5 f a q).trans (a5 f a q), b6.trans a6, b7.trans a7, fun a q => (b8 a q).trans (a8 a q), b9.trans a9⟩
theorem DF_F {lI lJ rJ' : List Nat} (h : Frm lI lJ [] [] rJ' [] S T) (e1 : ∀ f ∈ lI, 701 ≤ f ∧ f ≤ 710) (e2 : ∀ f ∈ lJ, 701 ≤ f ∧ f ≤ 710) (e3 : ∀ a ∈ rJ', r ≤ a ∧ a < r + 50) : DF r S T := by
  obtain ⟨a1, a2, a3, a4, a5, a6, a7, a8, a9⟩ := h
  exact ⟨a1, a2, a3, fun f a q _ => a4 f a (fun p => q (e1 f p)), fun f a q => a5 f a (fun p => q (e2 f p)), funext fun f => funext fun a => a6 f a (by simp), funext fun a => a7 a (by simp), fun a q => a8 a (fun p => q (e3 a p)), funext fun a => a9 a (by simp)⟩
theorem DF_sI (h : DF r S T) {f a : Nat} (hf : (701 ≤ f ∧ f ≤ 710) ∨ (r ≤ a ∧ a < r + 50)) (v : Int32) : DF r S (sI T f a v) := DF_trans h ⟨rfl, rfl, rfl, fun f' a' q p => rd_ne _ _ (by
  rcases hf with e | e
  · exact Or.inl (fun x => q (x ▸ e))
  · exact Or.inr (fun x => p (x ▸ e))), fun _ _ _ => rfl, rfl, rfl, fun _ _ => rfl, rfl⟩
theorem DF_sJ (h : DF r S T) {f : Nat} (hf : 701 ≤ f ∧ f ≤ 710) (a : Nat) (v : Int64) : DF r S (sJ T f a v) := DF_trans h ⟨rfl, rfl, rfl, fun _ _ _ _ => rfl, fun f' a' q => rj_ne _ _ (Or.inl (fun x => q (x ▸ hf))), rfl, rfl, fun _ _ => rfl, rfl⟩
theorem DF_wJ (h : DF r S T) {a : Nat} (ha : r ≤ a ∧ a < r + 50) (i : Int32) (v : Int64) : DF r S (wJ T a i v) := DF_trans h ⟨rfl, rfl, rfl, fun _ _ _ _ => rfl, fun _ _ _ => rfl, rfl, rfl, fun a' q => rw_ne _ _ _ _ (fun x => q (x ▸ ha)), rfl⟩
theorem DF_Sh (h : DF r S T) (s : Sh S) : Sh T := by
  obtain ⟨a1, a2, a3, a4, a5, a6, a7, a8, a9⟩ := h
  obtain ⟨s1, s2, s3, s4, s5⟩ := s
  refine ⟨a1.trans s1, fun a ha => by rw [a2, a3]; exact s2 a ha, fun q hq => by rw [a6]; exact s3 q hq, fun k hk => ?_, fun i hi => ?_⟩
  · rw [a6, a9]; exact s4 k hk
  · rw [a9]; exact s5 i hi
theorem DF_RD {b : Nat → Nat} {m : Nat} (h : DF r S T) (hr : Ba r) (s : RD S b m) : RD T b m := by
  have := Ba_lt hr
  refine ⟨DF_Sh h s.1, (h.2.2.2.1 101 1 (by omega) (by omega)).trans s.2.1, s.2.2.1, ?_⟩
  rw [h.2.2.2.2.2.2.1]
  exact s.2.2.2
end DRF
theorem ru_in {r i : Nat} (hi : i < 16) : (r ≤ ru r i ∧ ru r i < r + 50) ∧ (r ≤ ru r i + 1 ∧ ru r i + 1 < r + 50) ∧ (r ≤ ru r i + 2 ∧ ru r i + 2 < r + 50) := by unfold ru; omega
section MAL
variable {S T : gk_S} {F r i : Nat}
theorem k_mall2 (hr : Ba r) (hi : i < 16) (x : Int32) : ∀ d f fu (T : gk_S), Sh T → f + d = 6 → d < fu → (∀ j, j < f → xJ T (ru r i + 1) j = lN 0 ∧ xJ T (ru r i + 2) j = lN (tp j)) → ∃ T1, f_X5_matchAll_2 F fu (ru r i) x (nI f) T = some ((), sI (sI (sI T1 302 (ru r i) 15) 303 (ru r i) x) 304 (ru r i) 0) ∧ Frm [] [] [] [] [ru r i + 1, ru r i + 2] [] T T1 ∧ ∀ j, j < 6 → xJ T1 (ru r i + 1) j = lN 0 ∧ xJ T1 (ru r i + 2) j = lN (tp j) := by
  intro d
  induction d with
  | zero =>
    intro f fu T h h1 h2 hj
    obtain ⟨fu, rfl⟩ : ∃ q, fu = q + 1 := ⟨fu - 1, by omega⟩
    rw [f_X5_matchAll_2, if_pos (show (6 : Int32) ≤ nI f from nI_le (a := 6) (by omega) (by omega)), z_u h hr hi, qk_true, qv_eq, qv_eq, qv_eq]
    exact ⟨T, rfl, Fr_refl, fun j hj6 => hj j (by omega)⟩
  | succ d ih =>
    intro f fu T h h1 h2 hj
    obtain ⟨fu, rfl⟩ : ∃ q, fu = q + 1 := ⟨fu - 1, by omega⟩
    have hf : f < 6 := by omega
    have ul := z_ul h hr hi
    have h' := Sh_wJ h (ru r i + 1) (nI f) 0
    have ul' := z_ul h' hr hi
    have h'' := Sh_wJ h' (ru r i + 2) (nI f) (lN (tp f))
    have p1 : ∀ j, j < f + 1 → xJ (wJ (wJ T (ru r i + 1) (nI f) 0) (ru r i + 2) (nI f) (lN (tp f))) (ru r i + 1) j = lN 0 ∧ xJ (wJ (wJ T (ru r i + 1) (nI f) 0) (ru r i + 2) (nI f) (lN (tp f))) (ru r i + 2) j = lN (tp j) := by
      intro j hj'
      rw [rw_ne _ _ _ _ (by omega), rw_eq _ _ (by omega), rw_eq _ _ (by omega), rw_ne _ _ _ _ (by omega)]
      by_cases c : j = f
      · rw [if_pos c, if_pos c, c]; exact ⟨rfl, rfl⟩
      · rw [if_neg c, if_neg c]; exact hj j (by omega)
    rw [f_X5_matchAll_2, if_neg (show ¬ (6 : Int32) ≤ nI f from nI_ge (b := 6) hf (by omega)), z_u h hr hi, qk_true, z_up h hr hi, qP_some', ul.1, qk_true, ul.2.1, inb_n hf (by omega), qk_true, qv_eq, z_uq h' hr hi, qP_some', inb_n (show f < 7 by omega) (by omega), qk_true, ul'.2.2.1, qk_true, ul'.2.2.2, inb_n hf (by omega), qk_true, qv_eq, tops_eq f hf, nI_1]
    obtain ⟨T1, r1, r2, r3⟩ := ih (f + 1) fu _ h'' (by omega) (by omega) p1
    exact ⟨T1, r1, Fr_trans (Fr_wJ (Fr_wJ Fr_refl (by simp) _ _) (by simp) _ _) r2, r3⟩
theorem k_mall (hF : 16400 ≤ F) (h : Sh T) (hr : Ba r) (hi : i < 16) {a : Nat} (x : Int32) (hx : x = nI a) : ∃ T', f_X5_matchAll F T (ru r i) x = some ((), T') ∧ DF r T T' ∧ (∀ f c, c ≠ ru r i → gI T' f c = gI T f c) ∧ (∀ c, c ≠ ru r i + 1 → c ≠ ru r i + 2 → xJ T' c = xJ T c) ∧ CR T' (ru r i) (wR a) ∧ gI T' 304 (ru r i) = 0 ∧ gJ T' = gJ T := by
  obtain ⟨T1, r1, r2, r3⟩ := k_mall2 (F := F) hr hi x 6 0 F T h (by omega) (by omega) (fun j hj => by omega)
  have ui := ru_in (r := r) hi
  refine ⟨_, r1, ?_, ?_, ?_, ⟨?_, ?_, ?_⟩, rd_eq _ _ _ _, ?_⟩
  · exact DF_sI (DF_sI (DF_sI (DF_F r2 (by simp) (by simp) (fun a ha => by rcases List.mem_cons.mp ha with e | e; (rw [e]; exact ui.2.1); (rw [List.mem_singleton.mp e]; exact ui.2.2))) (Or.inr ui.1) _) (Or.inr ui.1) _) (Or.inr ui.1) _
  · intro f c hc
    rw [rd_ne _ _ (Or.inr hc), rd_ne _ _ (Or.inr hc), rd_ne _ _ (Or.inr hc)]
    exact r2.2.2.2.1 f c (by simp)
  · intro c c1 c2
    exact r2.2.2.2.2.2.2.2.1 c (by simp [c1, c2])
  · rw [rd_ne _ _ (Or.inl (by decide)), rd_eq]; exact hx
  · rw [rd_ne _ _ (Or.inl (by decide)), rd_ne _ _ (Or.inl (by decide)), rd_eq]; rfl
  · intro f hf
    exact r3 f hf
  · show gJ T1 = gJ T
    funext f c
    exact r2.2.2.2.2.1 f c (by simp)
theorem k_srg (h : Sh T) (hr : Ba r) (hi : i < 16) {ρ : AR} (c : CR T (ru r i) ρ) {f lo hi' : Nat} (hf : f < 6) : ∃ T', f_X5_setRange F T (ru r i) (nI f) (lN lo) (lN hi') = some ((), T') ∧ DF r T T' ∧ gI T' = gI T ∧ gJ T' = gJ T ∧ (∀ c, c ≠ ru r i + 1 → c ≠ ru r i + 2 → xJ T' c = xJ T c) ∧ CR T' (ru r i) (sRg ρ f lo hi') := by
  have ui := ru_in (r := r) hi
  have ul := z_ul h hr hi
  have h' := Sh_wJ h (ru r i + 1) (nI f) (lN lo)
  have ul' := z_ul h' hr hi
  unfold f_X5_setRange
  rw [if_neg (nI_pos (by omega)), if_neg (show ¬ (6 : Int32) ≤ nI f from nI_ge (b := 6) hf (by omega)), z_u h hr hi, qk_true, z_up h hr hi, qP_some', ul.1, qk_true, ul.2.1, inb_n hf (by omega), qk_true, qv_eq, z_uq h' hr hi, qP_some', ul'.2.2.1, qk_true, ul'.2.2.2, inb_n hf (by omega), qk_true, qv_eq]
  refine ⟨_, rfl, DF_wJ (DF_wJ DF_refl ui.2.1 _ _) ui.2.2 _ _, rfl, rfl, fun c c1 c2 => ?_, c.1, c.2.1, fun j hj => ?_⟩
  · rw [rw_ne _ _ _ _ c2, rw_ne _ _ _ _ c1]
  · rw [rw_ne _ _ _ _ (by omega), rw_eq _ _ (by omega), rw_eq _ _ (by omega), rw_ne _ _ _ _ (by omega)]
    show (if j = f then lN lo else xJ T (ru r i + 1) j) = lN (if j = f then lo else ρ.lo j) ∧ (if j = f then lN hi' else xJ T (ru r i + 2) j) = lN (if j = f then hi' else ρ.hi j)
    by_cases q : j = f
    · rw [if_pos q, if_pos q, if_pos q, if_pos q]; exact ⟨rfl, rfl⟩
    · rw [if_neg q, if_neg q, if_neg q, if_neg q]; exact c.2.2 j hj
end MAL
