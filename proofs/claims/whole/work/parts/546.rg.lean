/-! the start -/
theorem itA {c : Prop} [Decidable c] {f g : Nat → Int} {k : Nat} : (if c then f else g) k = if c then f k else g k := by split <;> rfl
theorem kcl_b : ∀ x ∈ kcl, 0 ≤ x ∧ x < 2000000000 := by decide +kernel
theorem kcl_g (k : Nat) : 0 ≤ kcl.getD k 0 ∧ kcl.getD k 0 < 2000000000 := by
  rw [List.getD_eq_getElem?_getD]
  cases h : kcl[k]? with
  | none => exact ⟨by simp, by simp⟩
  | some x => exact kcl_b x (List.mem_of_getElem? h)
theorem zTo_0 (k : Nat) : zTo 0 k = if k = 12 then -1 else 0 := rfl
theorem zTo_1 (k : Nat) : zTo 1 k = kcl.getD k 0 := rfl
theorem zh_b (o k : Nat) : -1 ≤ zh o k ∧ zh o k ≤ 2000000000 := by
  have g := kcl_g k
  unfold zh zh0 zTr zPr
  rw [itA, itA, itA, itA, itA, itA, itA, itA, itA, itA, zTo_0, zTo_1]
  repeat' split
  all_goals omega
theorem zm_b (o k : Nat) : -1 ≤ zm o k ∧ zm o k ≤ 3 := by
  unfold zm
  rw [up_v]
  split
  · omega
  · rw [up_v]
    split
    · omega
    · unfold zm0
      repeat' split
      all_goals omega
theorem cn_b {κ : Nat ⊕ (Nat × Nat)} {k : Nat} {x : Int} (h : -1 ≤ x ∧ x ≤ 2000000000) : cn_k κ k x := by
  cases κ with
  | inl ci => exact ⟨fun _ => by unfold c64; omega, fun _ => by unfold c32; omega⟩
  | inr tn => exact ⟨fun _ => by unfold c64; omega, fun _ => by unfold c32; omega⟩
theorem cn_zh : cn_s Kh zh := fun o κ _ k => cn_b (zh_b o k)
theorem cn_zm : cn_s Km zm := fun o κ _ k => cn_b ⟨(zm_b o k).1, by have := (zm_b o k).2; omega⟩
theorem rr_0 : RR zh zm 0 0 0 0 := by
  refine RR.mk (PR.mk (PS.mk (by omega) (by omega) (by omega) (by omega) rfl rfl rfl rfl rfl rfl rfl rfl rfl ⟨by decide, by decide⟩ rfl ⟨by decide, by decide⟩ rfl ?_ ?_ ?_ ?_ ?_ ?_ ?_ ?_ ?_ ?_ ?_ ?_ ?_ ?_ ?_ ?_ ?_ ?_) (PD.mk rfl ⟨by decide, by decide⟩ rfl ?_ rfl ?_ ?_ ?_ ?_ ?_ ?_ ?_ ?_)) ⟨by decide, by decide⟩ (RB.mk rfl rfl rfl rfl ?_ ⟨0, by omega, rfl, rfl, fun k hk => absurd hk (by omega)⟩ ⟨fun w hw => absurd hw (by omega), fun i hi => absurd hi (by omega)⟩ (.inl ⟨rfl, rfl⟩) ?_ ⟨0, by omega, rfl, rfl, fun j hj => absurd hj (by omega)⟩ rfl (fun _ => rfl))
  all_goals try exact c32_0
  all_goals try exact fun _ h => absurd h (by omega)
  all_goals try exact fun _ _ h => absurd h (by omega)
  · intro t ht
    refine .inl ?_
    rcases (show t = 0 ∨ t = 1 ∨ t = 2 ∨ t = 3 by omega) with e | e | e | e <;> subst e <;> exact ⟨rfl, rfl⟩
  · refine .inl ⟨rfl, fun k hk => ?_⟩
    rcases (show k = 0 ∨ k = 1 ∨ k = 2 ∨ k = 3 ∨ k = 4 by omega) with e | e | e | e | e <;> subst e <;> rfl
theorem rel_0 : Rel zh zm := ⟨⟨0, 0, 0, 0, rr_0⟩, rfl⟩
