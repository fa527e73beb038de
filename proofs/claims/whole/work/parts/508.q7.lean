/-! a dinner: one speaks, or doesn't -/
theorem hairS_c {c c' : Nat → Int} {i : Nat} (h : ∀ k, k ≠ 7 → c' k = c k) : ∀ w, hairS c' i w = hairS c i w
  | 0 => rfl
  | w + 1 => by rw [hairS, hairS, hairS_c h w, h _ (by omega), h _ (by omega)]
theorem longS_c {c c' : Nat → Int} {i : Nat} {a : Int} (h : ∀ k, k ≠ 7 → c' k = c k) : ∀ w, longS c' i a w = longS c i a w
  | 0 => rfl
  | w + 1 => by rw [longS, longS, longS_c h w, h (43 + i) (by omega), h (49 + (8 * i + w)) (by omega), h (49 + (8 * i + _)) (by omega)]
theorem up_up {σ : Sg} {o k : Nat} {x y : Int} : up_s (up_s σ o k x) o k y = up_s σ o k y := by
  funext a b
  by_cases h : a = o ∧ b = k
  · rw [up_v, if_pos h, up_v, if_pos h]
  · rw [up_v, if_neg h, up_v, if_neg h, up_v, if_neg h]
theorem up_sw {σ : Sg} {o k o' k' : Nat} {x y : Int} (h : ¬ (o = o' ∧ k = k')) : up_s (up_s σ o k x) o' k' y = up_s (up_s σ o' k' y) o k x := by
  funext a b
  rw [up_v, up_v, up_v, up_v]
  by_cases e1 : a = o ∧ b = k
  · by_cases e2 : a = o' ∧ b = k'
    · exact absurd ⟨e1.1.symm.trans e2.1, e1.2.symm.trans e2.2⟩ h
    · rw [if_neg e2, if_pos e1, if_pos e1]
  · rw [if_neg e1, if_neg e1]
theorem sayM_7 (τ : Sg) (i k j : Nat) (s x : Int) : up_s (sayM (up_s τ 5 7 s) i k j) 5 7 x = up_s (sayM τ i k j) 5 7 x := by
  unfold sayM
  rw [up_k (o := 5) (k := 7) (b := 37 + j) (by omega), up_k (o := 5) (k := 7) (b := 43 + i) (by omega)]
  rw [up_sw (o := 5) (k := 43 + i) (o' := 5) (k' := 7) (by omega), up_sw (o := 5) (k := 37 + j) (o' := 5) (k' := 7) (by omega), up_up]
  rw [up_sw (o := 5) (k := 7) (o' := 5) (k' := 37 + j) (by omega), up_sw (o := 5) (k := 7) (o' := 5) (k' := 43 + i) (by omega)]
def KM (τ τ' : Sg) (N : Nat) : Prop := ∀ q, q < N → ∀ w : Nat, w < 8 → an32 (sr32 (τ 5 (37 + q)) w) 1 = 1 → an32 (sr32 (τ' 5 (37 + q)) w) 1 = 1
theorem KM.rfl {τ : Sg} {N : Nat} : KM τ τ N := fun _ _ _ _ b => b
theorem KM.tr {a b c : Sg} {N : Nat} (h : KM a b N) (h' : KM b c N) : KM a c N := fun q hq w hw x => h' q hq w hw (h q hq w hw x)
section
variable {p : Nat} {σ τ : Sg} {W N D E : Nat}
theorem dine_r {s : Int} (h : PR p σ (up_s τ 5 7 s) W N D E) (h7 : c32 (τ 5 7)) {i j : Nat} (hi : i < N) (hj : j < N) (hij : i ≠ j) :
    ∃ (r : Int) (σ' τ' : Sg), Pr_blurt p i j σ = some (0, σ') ∧ M_dines i j τ = some (r, τ') ∧ (r = 0 ∨ r = 1) ∧ PR p σ' (up_s τ' 5 7 (w32 (s + r))) W N D E ∧ FH p σ σ' ∧ FM τ τ' ∧ (∀ k, k < 37 ∨ 49 ≤ k → τ' 5 k = τ 5 k) ∧ KM τ τ' N := by
  have bN := h.bN
  have bW := h.bW
  have hT : ∀ k, k ≠ 7 → (up_s τ 5 7 s) 5 k = τ 5 k := fun k hk => up_k hk
  have hs : c32 s := by have := h.sdb; rwa [up_e] at this
  have hM : PR p (up_s σ p 18 (τ 5 7)) τ W N D E := by
    have q := h.sSd (x := τ 5 7) h7
    rwa [up_up, up_same rfl] at q
  have e1 := hk0_h h hi
  have e2 := hair_m hM hi
  rw [hairS_c hT, hT (43 + i) (by omega)] at e1
  have l2 := long_m hM hi (xo32 (τ 5 (37 + j)) (-1))
  have kb := h.kpb i hi
  have nb' := h.knb j hj
  rw [hT _ (by omega)] at kb nb'
  have hp := pow_le h.bW
  have hB : Pr_blurt p i j σ = (nm (an32 (τ 5 (43 + i)) (xo32 (τ 5 (37 + j)) (-1))) (fun x7 => if x7 = 0 then some (0, σ) else if τ 5 (25 + i) < hairS (τ 5) i W then bd (Pr_longestOf p i x7 σ) (fun r12 s13 => bd (Pr_speak p i r12 j s13) (fun r14 s15 => nm (up_s s15 p 18 (w32 ((s15 p 18) + 1))) (fun s16 => some (0, s16)))) else some (0, σ))) := by
    rw [Pr_blurt, isP_1 h hi, bd_s, if_neg (by omega), isP_1 h hj, bd_s, if_neg (by omega), rd_k (by omega) (by omega), rd_k (by omega) (by omega), Int.toNat_natCast, Int.toNat_natCast, h.kp i hi, h.kn j hj, hT _ (by omega), hT _ (by omega), nm_k, nm_k]
    split
    · rfl
    · rw [rd_k (by omega) (by omega), e1, bd_s, rd_k (by omega) (by omega), h.tp i hi, hT _ (by omega)]
  obtain ⟨K, hK⟩ := nat_of kb.1
  obtain ⟨A, hA⟩ := nat_of nb'.1
  have hK2 : K < 2 ^ W := by
    have z := kb.2
    rw [hK, ← cast_pow] at z
    omega
  have hA2 : A < 256 := by omega
  have hK3 : K < 256 := by omega
  have hl : Pr_longestOf p i (an32 (τ 5 (43 + i)) (xo32 (τ 5 (37 + j)) (-1))) σ = some (longS (τ 5) i (xo32 (τ 5 (37 + j)) (-1)) W, σ) := by
    rw [long_h h hi, longS_c hT]
    rw [longS_g (b := xo32 (τ 5 (37 + j)) (-1)) (fun q hq => ?_)]
    rw [hK, hA, df_b hK3 hA2 (by omega)]
    exact ⟨fun z => z.2, fun z => ⟨z.1, z⟩⟩
  rw [nm_k] at hB
  by_cases g : τ 5 (25 + i) < hairS (τ 5) i W
  · rcases longS_r (τ 5) i (xo32 (τ 5 (37 + j)) (-1)) W with e | ⟨k, hk, e, b1, b2⟩
    · have z : an32 (τ 5 (43 + i)) (xo32 (τ 5 (37 + j)) (-1)) = 0 := by
        have q := longS_n e
        rw [hK, hA] at q ⊢
        exact df_0 hK2 bW hA2 q
      refine ⟨0, σ, τ, ?_, ?_, .inl rfl, ?_, FH.rfl, FM.rfl, fun _ _ => rfl, KM.rfl⟩
      · rw [hB, if_pos z]
      · rw [M_dines, e2, bd_s, wlt 25 (by omega) (by omega) (by omega), rd_k (by omega) (by omega), tn25, if_pos g, wlt 37 (by omega) (by omega) (by omega), rd_k (by omega) (by omega), tn37, l2, bd_s, e, if_pos (by omega)]
      · rw [Int.add_zero, w32_id hs]; exact h
    · have z : ¬ an32 (τ 5 (43 + i)) (xo32 (τ 5 (37 + j)) (-1)) = 0 := by
        intro z
        have q := (df_b (K := K) (A := A) (k := k) hK3 hA2 (by omega)).mpr ⟨by rw [hK] at b1; exact b1, by rw [hA] at b2; exact b2⟩
        rw [hK, hA] at z
        rw [z, show (0 : Int) = ((0 : Nat) : Int) from rfl, hb_n (by omega) (by omega)] at q
        simp at q
      have b3 : ¬ an32 (sr32 (τ 5 (37 + j)) k) 1 = 1 := by
        rw [hA] at b2 ⊢
        rw [nb (by omega) (by omega)] at b2
        rw [hb_n (by omega) (by omega)]
        cases hh : A.testBit k
        · simp
        · rw [hh] at b2; simp at b2
      refine ⟨1, up_s (sayH σ p i k j) p 18 (w32 (s + 1)), sayM τ i k j, ?_, ?_, .inr rfl, ?_, ?_, ?_, ?_, ?_⟩
      · have q : sayH σ p i k j p 18 = s := by
          unfold sayH; rw [up_o (by omega), up_o (by omega), h.sd, up_e]
        rw [hB, if_neg z, if_pos g, hl, bd_s, e, speak_h h hi hk hj, bd_s, nm_k, q]
      · rw [M_dines, e2, bd_s, wlt 25 (by omega) (by omega) (by omega), rd_k (by omega) (by omega), tn25, if_pos g, wlt 37 (by omega) (by omega) (by omega), rd_k (by omega) (by omega), tn37, l2, bd_s, e, if_neg (by omega), says_m hM hi hj hij b1 b3, bd_s, if_neg (by omega)]
      · have q := (say_r h hi hk hj).sSd (x := w32 (s + 1)) (w32_c _)
        rwa [sayM_7] at q
      · unfold sayH
        exact ((FH.up (by omega) (by omega) (by omega)).tr (FH.up (by omega) (by omega) (by omega))).tr (FH.up (by omega) (by omega) (by omega))
      · unfold sayM
        exact (FM.up (by omega)).tr (FM.up (by omega))
      · intro b hb
        unfold sayM
        rw [up_k (by omega), up_k (by omega)]
      · intro q hq w hw b
        unfold sayM
        rw [up_k (by omega)]
        by_cases e : q = j
        · subst e
          have bW := h.bW
          have hp := pow_le h.bW
          have q1 := h.knb q hq
          rw [hT _ (by omega)] at q1
          obtain ⟨m, hm⟩ := nat_of q1.1
          have h3 : 2 ^ k < 2 ^ 8 := Nat.pow_lt_pow_right (by omega) (by omega)
          rw [up_e]
          rw [hm] at b q1 ⊢
          have h4 : m ||| 2 ^ k < 2 ^ 8 := Nat.or_lt_two_pow (by omega) h3
          rw [hb_n (by omega) (by omega)] at b
          rw [sl_1 (by omega), or_n (by omega) (by omega), hb_n (by omega) (by omega), Nat.testBit_or]
          cases hh : m.testBit w
          · rw [hh] at b; simp at b
          · simp
        · rw [up_k (by omega)]; exact b
  · refine ⟨0, σ, τ, ?_, ?_, .inl rfl, ?_, FH.rfl, FM.rfl, fun _ _ => rfl, KM.rfl⟩
    · rw [hB, if_neg g]; split <;> rfl
    · rw [M_dines, e2, bd_s, wlt 25 (by omega) (by omega) (by omega), rd_k (by omega) (by omega), tn25, if_neg g]
    · rw [Int.add_zero, w32_id hs]; exact h
end
