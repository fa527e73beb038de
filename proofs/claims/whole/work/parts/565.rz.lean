/-! the reference comes to the next token; what it asks of a token -/
theorem sg_1 {x : Int} (h : sgn x) (τ : Sg) : M_isSignByte x τ = some (1, τ) := by
  unfold sgn at h
  rw [M_isSignByte]
  by_cases h1 : x = 59
  · rw [if_pos h1]
  · rw [if_neg h1]
    by_cases h2 : x = 60
    · rw [if_pos h2]
    · rw [if_neg h2]
      by_cases h3 : x = 62
      · rw [if_pos h3]
      · rw [if_neg h3, if_pos (by omega)]
theorem sg_0 {x : Int} (h : ¬ sgn x) (τ : Sg) : M_isSignByte x τ = some (0, τ) := by
  unfold sgn at h
  rw [M_isSignByte, if_neg (by omega), if_neg (by omega), if_neg (by omega), if_neg (by omega)]
theorem adv_m {n b k v p e : Nat} {B : Nat → Int} {τ : Sg} (h : TXM n B τ) (hb : τ 0 16 = b) (ht : TOK n B b k v p e) : ∃ τ', M_advance τ = some (0, τ') ∧ (∀ o k, (o ≠ 0 ∨ k < 14 ∨ 19 < k) → τ' o k = τ o k) ∧ τ' 0 15 = p ∧ τ' 0 16 = e ∧ TD k v τ' := by
  have h0 := h.1
  obtain ⟨t1, t2, t3, t4⟩ := ht
  have nb : p = n ∨ (B p ≠ 10 ∧ B p ≠ 32) := by
    rcases t4 with t | t | t | t
    · exact .inl t.1
    · have q := t.2.2.1 0 (by omega); rw [Nat.add_zero] at q; unfold isL at q; exact .inr (by omega)
    · have q := t.2.2.1 0 (by omega); rw [Nat.add_zero] at q; unfold isD at q; exact .inr (by omega)
    · exact .inr ⟨t.2.2.2.2.1, t.2.2.2.2.2.1⟩
  have e0 : M_advance τ = M_advance_J58 (up_s τ 0 15 p) := by
    rw [M_advance, nm_k, hb]
    exact skip_m h t2 nb (p - b) b fu (by omega) (by unfold fu; omega) t3
  rw [e0, M_advance_J58, nm_k, up_e]
  have hx : TXM n B (up_s (up_s τ 0 15 p) 0 16 p) := h.cg (by rw [up_k (by omega), up_k (by omega)]) (fun k => by rw [up_o (by omega), up_o (by omega)])
  have s15 : up_s (up_s τ 0 15 p) 0 16 p 0 15 = p := by rw [up_k (by omega), up_e]
  have s16 : up_s (up_s τ 0 15 p) 0 16 p 0 16 = p := up_e
  have fr : ∀ o k, (o ≠ 0 ∨ k < 14 ∨ 19 < k) → up_s (up_s τ 0 15 p) 0 16 p o k = τ o k := fun o k q => by rw [up_v, if_neg (by omega), up_v, if_neg (by omega)]
  clear e0
  generalize up_s (up_s τ 0 15 (p : Int)) 0 16 (p : Int) = s at *
  rw [s15, hx.2.1]
  rcases t4 with ⟨r1, r2, r3, r4⟩ | ⟨r1, r2, r3, r4, r5⟩ | ⟨r1, r2, r3, r4, r5⟩ | ⟨r1, r2, r3, r4, r5, r6, r7⟩
  · rw [if_neg (by omega), nm_k]
    refine ⟨_, rfl, fun o k q => by rw [up_v, if_neg (by omega)]; exact fr o k q, by rw [up_k (by omega)]; exact s15, by rw [up_k (by omega), s16]; omega, .inl ⟨r2, up_e⟩⟩
  · have q0 := r3 0 (by omega)
    rw [Nat.add_zero] at q0
    obtain ⟨s', k1, k2, k3, k4, k5⟩ := lets_m (n := n) r3 r4 r2 (e - p) p fu (up_s (up_s s 0 14 1) 0 19 0) (by omega) (by unfold fu; omega) (by omega) (hx.cg (by rw [up_k (by omega), up_k (by omega)]) (fun k => by rw [up_o (by omega), up_o (by omega)])) (by rw [up_k (by omega), up_k (by omega)]; exact s15) (by rw [up_k (by omega), up_k (by omega)]; exact s16) (by rw [up_e, Nat.sub_self, if_pos (by omega)]; rfl)
    have z14 : s' 0 14 = 1 := by rw [k2 0 14 (by omega), up_k (by omega), up_e]
    refine ⟨s', ?_, fun o k q => by rw [k2 o k (by omega), up_v, if_neg (by omega), up_v, if_neg (by omega)]; exact fr o k q, by rw [k2 0 15 (by omega), up_k (by omega), up_k (by omega)]; exact s15, k3, ?_⟩
    · rw [if_pos (by omega), look_m hx, bd_s, let_1 q0, bd_s, if_neg i10, nm_k, nm_k]; exact k1
    · rcases r5 with ⟨q, l1, ⟨l2, l3⟩, l4, l5⟩ | ⟨l1, ⟨l2, l3, l4⟩ | ⟨l2, l3, l4⟩⟩
      · have b4 := key_4 l1
        refine .inr (.inr (.inl ⟨l4, by omega, z14, ?_⟩))
        rw [k5, if_pos (by omega), l5, ← key_6 l1, show e - p = kyl q by omega]
        exact cd_e l3
      · rw [if_pos (by omega)] at k5
        refine .inr (.inr (.inr (.inl ⟨l3, z14, by rw [k4]; omega, ?_, fun q hq z => ?_⟩)))
        · rw [l4, k5]; exact cd_nc r3 (by omega) (by omega)
        · rw [k5, ← key_6 hq] at z
          obtain ⟨y1, y2⟩ := cd_j (.inr rfl) r3 (fun i hi => key_5 hq hi) z
          exact l1 q hq ⟨by omega, fun i hi => y2 i (by omega)⟩
      · rw [if_neg (by omega)] at k5
        exact .inr (.inr (.inr (.inr (.inl ⟨l3, z14, by rw [k4]; omega, k5⟩))))
  · have q0 := r3 0 (by omega)
    rw [Nat.add_zero] at q0
    have nl : ¬ isL (B p) := by unfold isD at q0; unfold isL; omega
    obtain ⟨s', k1, k2, k3, k4⟩ := digs_m (n := n) (K := fun s32 => M_advance_J273 s32) r3 r4 r2 (e - p) p fu (up_s s 0 17 0) (by omega) (by unfold fu; omega) (by omega) (hx.cg (by rw [up_k (by omega)]) (fun k => by rw [up_o (by omega)])) (by rw [up_k (by omega)]; exact s15) (by rw [up_k (by omega)]; exact s16) (by rw [up_e, Nat.sub_self]; rfl)
    have z15 : s' 0 15 = p := by rw [k2 0 15 (by omega), up_k (by omega)]; exact s15
    rw [if_pos (by omega), look_m hx, bd_s, let_0 nl, bd_s, if_pos rfl, dig_1 q0, bd_s, if_neg i10, nm_k, k1, M_advance_J273, k3, z15, w32_i (by omega) (by omega)]
    rcases r5 with ⟨l2, l3, l4⟩ | ⟨l2, l3, l4⟩
    · rw [if_neg (by omega), nm_k]
      have c4 := dg_b (B := B) (p := p) (L := e - p) r3 (by omega)
      rw [Nat.min_eq_left (by omega)] at k4
      refine ⟨_, rfl, fun o k q => by rw [up_v, if_neg (by omega), k2 o k (by omega), up_v, if_neg (by omega)]; exact fr o k q, by rw [up_k (by omega)]; exact z15, by rw [up_k (by omega)]; exact k3, .inr (.inr (.inr (.inr (.inr (.inl ⟨l3, up_e, by rw [up_k (by omega), k4, l4], by omega⟩)))))⟩
    · rw [if_pos (by omega), nm_k]
      exact ⟨_, rfl, fun o k q => by rw [up_v, if_neg (by omega), k2 o k (by omega), up_v, if_neg (by omega)]; exact fr o k q, by rw [up_k (by omega)]; exact z15, by rw [up_k (by omega)]; exact k3, .inr (.inl ⟨l3, up_e⟩)⟩
  · rw [if_pos (by omega), look_m hx, bd_s, let_0 r3, bd_s, if_pos rfl, dig_0 r4, bd_s, if_pos rfl, nm_k, nm_k, s15, w32_i (by omega) (by omega), suc]
    rcases r7 with ⟨l2, l3, l4⟩ | ⟨l2, l3, l4⟩
    · rw [sg_1 l2, bd_s, if_neg i10, nm_k]
      unfold sgn at l2
      exact ⟨_, rfl, fun o k q => by rw [up_v, if_neg (by omega), up_v, if_neg (by omega), up_v, if_neg (by omega)]; exact fr o k q, by rw [up_k (by omega), up_k (by omega), up_k (by omega)]; exact s15, by rw [up_k (by omega), up_k (by omega), up_e, r2], .inr (.inr (.inr (.inr (.inr (.inr ⟨l3, up_e, by rw [up_k (by omega), up_e, l4], by omega, by omega⟩)))))⟩
    · rw [sg_0 l2, bd_s, if_pos rfl, nm_k]
      exact ⟨_, rfl, fun o k q => by rw [up_v, if_neg (by omega), up_v, if_neg (by omega), up_v, if_neg (by omega)]; exact fr o k q, by rw [up_k (by omega), up_k (by omega), up_k (by omega)]; exact s15, by rw [up_k (by omega), up_k (by omega), up_e, r2], .inr (.inl ⟨l3, up_e⟩)⟩
/-! words that are spelled -/
def sp1 (a t : Int) : Int := if 0 < a then w64 (w64 (w64 (t * 32) + a) - 96) else t
theorem sp_91 (a t : Int) (σ : Sg) : M_spelled_J91 a t σ = some (sp1 a t, σ) := by
  unfold M_spelled_J91 sp1; split <;> rfl
theorem sp_65 (a b t : Int) (σ : Sg) : M_spelled_J65 a b t σ = some (sp1 b (sp1 a t), σ) := by
  unfold M_spelled_J65; split
  · next h => rw [sp_91, show sp1 a t = _ from if_pos h]
  · next h => rw [sp_91, show sp1 a t = _ from if_neg h]
theorem sp_41 (a b c t : Int) (σ : Sg) : M_spelled_J41 a b c t σ = some (sp1 c (sp1 b (sp1 a t)), σ) := by
  unfold M_spelled_J41; split
  · next h => rw [sp_65, show sp1 a t = _ from if_pos h]
  · next h => rw [sp_65, show sp1 a t = _ from if_neg h]
theorem sp_m (p q a b c d : Int) (σ : Sg) : M_spelled p q a b c d σ = some (sp1 d (sp1 c (sp1 b (sp1 a (w64 (w64 (w64 (w64 (p - 96) * 32) + q) - 96))))), σ) := by
  rw [M_spelled, nm_k]; split
  · next h => rw [sp_41, show sp1 a (w64 (w64 (w64 (w64 (p - 96) * 32) + q) - 96)) = _ from if_pos h]
  · next h => rw [sp_41, show sp1 a (w64 (w64 (w64 (w64 (p - 96) * 32) + q) - 96)) = _ from if_neg h]
section
variable {k v : Nat} {τ : Sg}
theorem isW_m (h : TD k v τ) {q : Nat} (hq : q < 25) : M_isWord (kc q) τ = some (if k = 2 ∧ v = q then 1 else 0, τ) := by
  have hb := kc_b ⟨q, hq⟩
  simp only at hb
  rw [M_isWord]
  rcases h with ⟨a, b⟩ | ⟨a, b⟩ | ⟨a, b, c, d⟩ | ⟨a, b, _, _, d⟩ | ⟨a, b, c, d⟩ | ⟨a, b, c⟩ | ⟨a, b, c⟩
  · rw [if_neg (by omega), if_neg (by omega)]
  · rw [if_neg (by omega), if_neg (by omega)]
  · rw [if_pos c, d]
    by_cases e : v = q
    · rw [e, if_pos rfl, if_pos ⟨a, rfl⟩]
    · rw [if_neg (fun z => e (kc_j ⟨v, b⟩ ⟨q, hq⟩ z)), if_neg (fun z => e z.2)]
  · rw [if_pos b, if_neg (d q hq), if_neg (by omega)]
  · rw [if_pos b, d, if_neg (by omega), if_neg (by omega)]
  · rw [if_neg (by omega), if_neg (by omega)]
  · rw [if_neg (by omega), if_neg (by omega)]
theorem sw_heard (σ : Sg) : M_spelled 104 101 97 114 100 0 σ = some (kc 0, σ) := by
  rw [sp_m]; congr 2
theorem sw_odds (σ : Sg) : M_spelled 111 100 100 115 0 0 σ = some (kc 1, σ) := by
  rw [sp_m]; congr 2
theorem sw_word (σ : Sg) : M_spelled 119 111 114 100 0 0 σ = some (kc 2, σ) := by
  rw [sp_m]; congr 2
theorem sw_grows (σ : Sg) : M_spelled 103 114 111 119 115 0 σ = some (kc 3, σ) := by
  rw [sp_m]; congr 2
theorem sw_grey (σ : Sg) : M_spelled 103 114 101 121 0 0 σ = some (kc 4, σ) := by
  rw [sp_m]; congr 2
theorem sw_person (σ : Sg) : M_spelled 112 101 114 115 111 110 σ = some (kc 5, σ) := by
  rw [sp_m]; congr 2
theorem sw_temper (σ : Sg) : M_spelled 116 101 109 112 101 114 σ = some (kc 6, σ) := by
  rw [sp_m]; congr 2
theorem sw_barber (σ : Sg) : M_spelled 98 97 114 98 101 114 σ = some (kc 7, σ) := by
  rw [sp_m]; congr 2
theorem sw_keeps (σ : Sg) : M_spelled 107 101 101 112 115 0 σ = some (kc 8, σ) := by
  rw [sp_m]; congr 2
theorem sw_dinner (σ : Sg) : M_spelled 100 105 110 110 101 114 σ = some (kc 9, σ) := by
  rw [sp_m]; congr 2
theorem sw_every (σ : Sg) : M_spelled 101 118 101 114 121 0 σ = some (kc 10, σ) := by
  rw [sp_m]; congr 2
theorem sw_halves (σ : Sg) : M_spelled 104 97 108 118 101 115 σ = some (kc 11, σ) := by
  rw [sp_m]; congr 2
theorem sw_day (σ : Sg) : M_spelled 100 97 121 0 0 0 σ = some (kc 12, σ) := by
  rw [sp_m]; congr 2
theorem sw_keep (σ : Sg) : M_spelled 107 101 101 112 0 0 σ = some (kc 13, σ) := by
  rw [sp_m]; congr 2
theorem sw_say (σ : Sg) : M_spelled 115 97 121 0 0 0 σ = some (kc 14, σ) := by
  rw [sp_m]; congr 2
theorem sw_to (σ : Sg) : M_spelled 116 111 0 0 0 0 σ = some (kc 15, σ) := by
  rw [sp_m]; congr 2
theorem sw_cut (σ : Sg) : M_spelled 99 117 116 0 0 0 σ = some (kc 16, σ) := by
  rw [sp_m]; congr 2
theorem sw_by (σ : Sg) : M_spelled 98 121 0 0 0 0 σ = some (kc 17, σ) := by
  rw [sp_m]; congr 2
theorem sw_any (σ : Sg) : M_spelled 97 110 121 0 0 0 σ = some (kc 18, σ) := by
  rw [sp_m]; congr 2
theorem sw_when (σ : Sg) : M_spelled 119 104 101 110 0 0 σ = some (kc 19, σ) := by
  rw [sp_m]; congr 2
theorem sw_knows (σ : Sg) : M_spelled 107 110 111 119 115 0 σ = some (kc 20, σ) := by
  rw [sp_m]; congr 2
theorem sw_hair (σ : Sg) : M_spelled 104 97 105 114 0 0 σ = some (kc 21, σ) := by
  rw [sp_m]; congr 2
theorem sw_loop (σ : Sg) : M_spelled 108 111 111 112 0 0 σ = some (kc 22, σ) := by
  rw [sp_m]; congr 2
theorem sw_end (σ : Sg) : M_spelled 101 110 100 0 0 0 σ = some (kc 23, σ) := by
  rw [sp_m]; congr 2
theorem sw_stop (σ : Sg) : M_spelled 115 116 111 112 0 0 σ = some (kc 24, σ) := by
  rw [sp_m]; congr 2
theorem is_heard (h : TD k v τ) : M_isHeard τ = some (if k = 2 ∧ v = 0 then 1 else 0, τ) := by
  rw [M_isHeard, sw_heard, bd_s, isW_m h (by omega), bd_s, zb_i]
theorem is_odds (h : TD k v τ) : M_isOdds τ = some (if k = 2 ∧ v = 1 then 1 else 0, τ) := by
  rw [M_isOdds, sw_odds, bd_s, isW_m h (by omega), bd_s, zb_i]
theorem is_word (h : TD k v τ) : M_isWordWord τ = some (if k = 2 ∧ v = 2 then 1 else 0, τ) := by
  rw [M_isWordWord, sw_word, bd_s, isW_m h (by omega), bd_s, zb_i]
theorem is_grows (h : TD k v τ) : M_isGrows τ = some (if k = 2 ∧ v = 3 then 1 else 0, τ) := by
  rw [M_isGrows, sw_grows, bd_s, isW_m h (by omega), bd_s, zb_i]
theorem is_grey (h : TD k v τ) : M_isGrey τ = some (if k = 2 ∧ v = 4 then 1 else 0, τ) := by
  rw [M_isGrey, sw_grey, bd_s, isW_m h (by omega), bd_s, zb_i]
theorem is_person (h : TD k v τ) : M_isPerson τ = some (if k = 2 ∧ v = 5 then 1 else 0, τ) := by
  rw [M_isPerson, sw_person, bd_s, isW_m h (by omega), bd_s, zb_i]
theorem is_temper (h : TD k v τ) : M_isTemper τ = some (if k = 2 ∧ v = 6 then 1 else 0, τ) := by
  rw [M_isTemper, sw_temper, bd_s, isW_m h (by omega), bd_s, zb_i]
theorem is_barber (h : TD k v τ) : M_isBarber τ = some (if k = 2 ∧ v = 7 then 1 else 0, τ) := by
  rw [M_isBarber, sw_barber, bd_s, isW_m h (by omega), bd_s, zb_i]
theorem is_keeps (h : TD k v τ) : M_isKeeps τ = some (if k = 2 ∧ v = 8 then 1 else 0, τ) := by
  rw [M_isKeeps, sw_keeps, bd_s, isW_m h (by omega), bd_s, zb_i]
theorem is_dinner (h : TD k v τ) : M_isDinner τ = some (if k = 2 ∧ v = 9 then 1 else 0, τ) := by
  rw [M_isDinner, sw_dinner, bd_s, isW_m h (by omega), bd_s, zb_i]
theorem is_every (h : TD k v τ) : M_isEvery τ = some (if k = 2 ∧ v = 10 then 1 else 0, τ) := by
  rw [M_isEvery, sw_every, bd_s, isW_m h (by omega), bd_s, zb_i]
theorem is_halves (h : TD k v τ) : M_isHalves τ = some (if k = 2 ∧ v = 11 then 1 else 0, τ) := by
  rw [M_isHalves, sw_halves, bd_s, isW_m h (by omega), bd_s, zb_i]
theorem is_to (h : TD k v τ) : M_isTo τ = some (if k = 2 ∧ v = 15 then 1 else 0, τ) := by
  rw [M_isTo, sw_to, bd_s, isW_m h (by omega), bd_s, zb_i]
theorem is_by (h : TD k v τ) : M_isBy τ = some (if k = 2 ∧ v = 17 then 1 else 0, τ) := by
  rw [M_isBy, sw_by, bd_s, isW_m h (by omega), bd_s, zb_i]
theorem is_end (h : TD k v τ) : M_isEnd τ = some (if k = 2 ∧ v = 23 then 1 else 0, τ) := by
  rw [M_isEnd, sw_end, bd_s, isW_m h (by omega), bd_s, zb_i]
def stp (k v : Nat) : Int := if k = 2 ∧ v = 12 then 0 else if k = 2 ∧ v = 13 then 1 else if k = 2 ∧ v = 14 then 2 else if k = 2 ∧ v = 16 then 3 else if k = 2 ∧ v = 18 then 4 else if k = 2 ∧ v = 19 then 5 else if k = 2 ∧ v = 22 then 6 else if k = 2 ∧ v = 24 then 7 else -1
theorem stp_m (h : TD k v τ) : M_stepWord τ = some (stp k v, τ) := by
  rw [M_stepWord]; unfold stp
  rw [sw_day, bd_s, isW_m h (by omega), bd_s]
  by_cases c12 : k = 2 ∧ v = 12
  · rw [if_pos c12, if_pos c12, if_neg i10]
  rw [if_neg c12, if_neg c12, if_pos rfl]
  rw [sw_keep, bd_s, isW_m h (by omega), bd_s]
  by_cases c13 : k = 2 ∧ v = 13
  · rw [if_pos c13, if_pos c13, if_neg i10]
  rw [if_neg c13, if_neg c13, if_pos rfl]
  rw [sw_say, bd_s, isW_m h (by omega), bd_s]
  by_cases c14 : k = 2 ∧ v = 14
  · rw [if_pos c14, if_pos c14, if_neg i10]
  rw [if_neg c14, if_neg c14, if_pos rfl]
  rw [sw_cut, bd_s, isW_m h (by omega), bd_s]
  by_cases c16 : k = 2 ∧ v = 16
  · rw [if_pos c16, if_pos c16, if_neg i10]
  rw [if_neg c16, if_neg c16, if_pos rfl]
  rw [sw_any, bd_s, isW_m h (by omega), bd_s]
  by_cases c18 : k = 2 ∧ v = 18
  · rw [if_pos c18, if_pos c18, if_neg i10]
  rw [if_neg c18, if_neg c18, if_pos rfl]
  rw [sw_when, bd_s, isW_m h (by omega), bd_s]
  by_cases c19 : k = 2 ∧ v = 19
  · rw [if_pos c19, if_pos c19, if_neg i10]
  rw [if_neg c19, if_neg c19, if_pos rfl]
  rw [sw_loop, bd_s, isW_m h (by omega), bd_s]
  by_cases c22 : k = 2 ∧ v = 22
  · rw [if_pos c22, if_pos c22, if_neg i10]
  rw [if_neg c22, if_neg c22, if_pos rfl]
  rw [sw_stop, bd_s, isW_m h (by omega), bd_s]
  by_cases c24 : k = 2 ∧ v = 24
  · rw [if_pos c24, if_pos c24, if_neg i10]
  rw [if_neg c24, if_neg c24, if_pos rfl]
def tst (k v : Nat) : Int := if k = 2 ∧ v = 20 then 0 else if k = 2 ∧ v = 21 then 1 else -1
theorem tst_m (h : TD k v τ) : M_testWord τ = some (tst k v, τ) := by
  rw [M_testWord]; unfold tst
  rw [sw_knows, bd_s, isW_m h (by omega), bd_s]
  by_cases c20 : k = 2 ∧ v = 20
  · rw [if_pos c20, if_pos c20, if_neg i10]
  rw [if_neg c20, if_neg c20, if_pos rfl]
  rw [sw_hair, bd_s, isW_m h (by omega), bd_s]
  by_cases c21 : k = 2 ∧ v = 21
  · rw [if_pos c21, if_pos c21, if_neg i10]
  rw [if_neg c21, if_neg c21, if_pos rfl]
theorem kept_m (h : TD k v τ) : M_isKept τ = some (if k = 2 then 1 else 0, τ) := by
  have hv : k = 2 → v < 25 := by
    intro z
    rcases h with ⟨a, b⟩ | ⟨a, b⟩ | ⟨a, b, c, d⟩ | ⟨a, b, _, _, d⟩ | ⟨a, b, c, d⟩ | ⟨a, b, c⟩ | ⟨a, b, c⟩ <;> omega
  rw [M_isKept]
  rw [is_heard h, bd_s]
  by_cases c0 : k = 2 ∧ v = 0
  · rw [if_pos c0, if_neg i10, if_pos c0.1]
  rw [if_neg c0, if_pos rfl]
  rw [is_odds h, bd_s]
  by_cases c1 : k = 2 ∧ v = 1
  · rw [if_pos c1, if_neg i10, if_pos c1.1]
  rw [if_neg c1, if_pos rfl]
  rw [is_word h, bd_s]
  by_cases c2 : k = 2 ∧ v = 2
  · rw [if_pos c2, if_neg i10, if_pos c2.1]
  rw [if_neg c2, if_pos rfl]
  rw [is_grows h, bd_s]
  by_cases c3 : k = 2 ∧ v = 3
  · rw [if_pos c3, if_neg i10, if_pos c3.1]
  rw [if_neg c3, if_pos rfl]
  rw [is_grey h, bd_s]
  by_cases c4 : k = 2 ∧ v = 4
  · rw [if_pos c4, if_neg i10, if_pos c4.1]
  rw [if_neg c4, if_pos rfl]
  rw [is_person h, bd_s]
  by_cases c5 : k = 2 ∧ v = 5
  · rw [if_pos c5, if_neg i10, if_pos c5.1]
  rw [if_neg c5, if_pos rfl]
  rw [is_temper h, bd_s]
  by_cases c6 : k = 2 ∧ v = 6
  · rw [if_pos c6, if_neg i10, if_pos c6.1]
  rw [if_neg c6, if_pos rfl]
  rw [is_barber h, bd_s]
  by_cases c7 : k = 2 ∧ v = 7
  · rw [if_pos c7, if_neg i10, if_pos c7.1]
  rw [if_neg c7, if_pos rfl]
  rw [is_keeps h, bd_s]
  by_cases c8 : k = 2 ∧ v = 8
  · rw [if_pos c8, if_neg i10, if_pos c8.1]
  rw [if_neg c8, if_pos rfl]
  rw [is_dinner h, bd_s]
  by_cases c9 : k = 2 ∧ v = 9
  · rw [if_pos c9, if_neg i10, if_pos c9.1]
  rw [if_neg c9, if_pos rfl]
  rw [is_every h, bd_s]
  by_cases c10 : k = 2 ∧ v = 10
  · rw [if_pos c10, if_neg i10, if_pos c10.1]
  rw [if_neg c10, if_pos rfl]
  rw [is_halves h, bd_s]
  by_cases c11 : k = 2 ∧ v = 11
  · rw [if_pos c11, if_neg i10, if_pos c11.1]
  rw [if_neg c11, if_pos rfl]
  rw [is_to h, bd_s]
  by_cases c15 : k = 2 ∧ v = 15
  · rw [if_pos c15, if_neg i10, if_pos c15.1]
  rw [if_neg c15, if_pos rfl]
  rw [is_by h, bd_s]
  by_cases c17 : k = 2 ∧ v = 17
  · rw [if_pos c17, if_neg i10, if_pos c17.1]
  rw [if_neg c17, if_pos rfl]
  rw [stp_m h, bd_s]
  by_cases z : stp k v < 0
  · rw [if_pos z, tst_m h, bd_s]
    by_cases y : tst k v < 0
    · rw [if_pos y, is_end h, bd_s]
      by_cases x : k = 2 ∧ v = 23
      · rw [if_pos x, if_neg i10, if_pos x.1]
      · rw [if_neg x, if_pos rfl, if_neg]
        intro w
        unfold stp at z
        unfold tst at y
        have := hv w
        have z' : ∀ q r : Int, True := fun _ _ => trivial
        by_cases d12 : v = 12
        · rw [if_pos ⟨w, d12⟩] at z; omega
        rw [if_neg (fun u => d12 u.2)] at z
        by_cases d13 : v = 13
        · rw [if_pos ⟨w, d13⟩] at z; omega
        rw [if_neg (fun u => d13 u.2)] at z
        by_cases d14 : v = 14
        · rw [if_pos ⟨w, d14⟩] at z; omega
        rw [if_neg (fun u => d14 u.2)] at z
        by_cases d16 : v = 16
        · rw [if_pos ⟨w, d16⟩] at z; omega
        rw [if_neg (fun u => d16 u.2)] at z
        by_cases d18 : v = 18
        · rw [if_pos ⟨w, d18⟩] at z; omega
        rw [if_neg (fun u => d18 u.2)] at z
        by_cases d19 : v = 19
        · rw [if_pos ⟨w, d19⟩] at z; omega
        rw [if_neg (fun u => d19 u.2)] at z
        by_cases d22 : v = 22
        · rw [if_pos ⟨w, d22⟩] at z; omega
        rw [if_neg (fun u => d22 u.2)] at z
        by_cases d24 : v = 24
        · rw [if_pos ⟨w, d24⟩] at z; omega
        by_cases d20 : v = 20
        · rw [if_pos ⟨w, d20⟩] at y; omega
        rw [if_neg (fun u => d20 u.2)] at y
        by_cases d21 : v = 21
        · rw [if_pos ⟨w, d21⟩] at y; omega
        omega
    · rw [if_neg y, if_pos]
      by_cases w : k = 2
      · exact w
      · exfalso; apply y; unfold tst; rw [if_neg (fun u => w u.1), if_neg (fun u => w u.1)]; omega
  · rw [if_neg z, if_pos]
    by_cases w : k = 2
    · exact w
    · exfalso; apply z; unfold stp
      rw [if_neg (fun u => w u.1), if_neg (fun u => w u.1), if_neg (fun u => w u.1), if_neg (fun u => w u.1), if_neg (fun u => w u.1), if_neg (fun u => w u.1), if_neg (fun u => w u.1), if_neg (fun u => w u.1)]; omega
theorem name_m (h : TD k v τ) : M_isName τ = some (if k = 3 then 1 else 0, τ) := by
  have hk := kept_m h
  rw [M_isName]
  rcases h with ⟨a, b⟩ | ⟨a, b⟩ | ⟨a, b, c, d⟩ | ⟨a, b, c, _, d⟩ | ⟨a, b, c, d⟩ | ⟨a, b, c⟩ | ⟨a, b, c⟩
  · rw [if_neg (by omega), if_neg (by omega)]
  · rw [if_neg (by omega), if_neg (by omega)]
  · rw [if_pos c, if_neg (by omega : ¬ k = 3)]
    split
    · rfl
    · rw [hk, bd_s, if_pos a, if_neg i10]
  · rw [if_pos b, if_neg (by omega), hk, bd_s, if_neg (by omega : ¬ k = 2), if_pos rfl, if_pos a]
  · rw [if_pos b, if_pos c, if_neg (by omega)]
  · rw [if_neg (by omega), if_neg (by omega)]
  · rw [if_neg (by omega), if_neg (by omega)]
theorem sign_m (h : TD k v τ) (x : Int) : M_isSign x τ = some (if k = 6 ∧ (v : Int) = x then 1 else 0, τ) := by
  rw [M_isSign]
  rcases h with ⟨a, b⟩ | ⟨a, b⟩ | ⟨a, b, c, d⟩ | ⟨a, b, c, _, d⟩ | ⟨a, b, c, d⟩ | ⟨a, b, c⟩ | ⟨a, b, c, d⟩
  · rw [if_neg (by omega), if_neg (by omega)]
  · rw [if_neg (by omega), if_neg (by omega)]
  · rw [if_neg (by omega), if_neg (by omega)]
  · rw [if_neg (by omega), if_neg (by omega)]
  · rw [if_neg (by omega), if_neg (by omega)]
  · rw [if_neg (by omega), if_neg (by omega)]
  · rw [if_pos b, c]
    by_cases e : (v : Int) = x
    · rw [if_pos e, if_pos ⟨a, e⟩]
    · rw [if_neg e, if_neg (fun z => e z.2)]
end
