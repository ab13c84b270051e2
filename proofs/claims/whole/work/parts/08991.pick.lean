/-! pure: what is picked, and ends as sets -/
section PCK
def pkf (G : Nat → Bool) : Nat → Int32
  | 0 => -9
  | m + 1 => if G m = true then (if pkf G m = -9 then nI (10 + m) else pkf G m) else pkf G m
def pkl (G : Nat → Bool) : Nat → Int32
  | 0 => -9
  | m + 1 => if G m = true then nI (10 + m) else pkl G m
def pkv (G : Nat → Bool) (m : Nat) (x : Int32) : Int32 := if x = 0 then nI (ct G m) else if x = 1 then pkf G m else pkl G m
theorem n9_ne {n : Nat} (h : n < 1000) : ¬ nI n = -9 := by
  rw [show (-9 : Int32) = zI (-9) from rfl, zI_nat, zI_eq (by omega) (by omega) (by omega) (by omega)]
  omega
theorem pkf_9 {G : Nat → Bool} : ∀ m, m ≤ 191 → (pkf G m = -9 ↔ ct G m = 0) ∧ (ct G m = 0 → pkl G m = -9)
  | 0, _ => ⟨⟨fun _ => rfl, fun _ => rfl⟩, fun _ => rfl⟩
  | m + 1, h => by
    obtain ⟨h1, h2⟩ := pkf_9 (G := G) m (by omega)
    rw [pkf, pkl]
    cases hG : G m with
    | true =>
      rw [ct_y hG, if_pos rfl, if_pos rfl]
      refine ⟨⟨fun z => ?_, fun z => by omega⟩, fun z => by omega⟩
      by_cases e : pkf G m = -9
      · rw [if_pos e] at z; exact absurd z (n9_ne (by omega))
      · rw [if_neg e] at z; exact absurd z e
    | false =>
      rw [ct_n hG, if_neg (by intro z; cases z), if_neg (by intro z; cases z)]
      exact ⟨h1, h2⟩
theorem cl_picked {A : Nat → Int32} {G : Nat → Bool} (hA : ∀ m, m < 191 → A m = bi (G m)) (x : Int32) : f_X6_picked A x = some (pkv G 191 x) := by
  have key : ∀ (d m fuel : Nat), 191 = m + d → d < fuel → f_X6_picked_l12 A x fuel (nI (ct G m)) (pkf G m) (pkl G m) (nI m) = some (pkv G 191 x) := by
    intro d
    induction d with
    | zero =>
      intro m fuel hm hf
      obtain ⟨fuel, rfl⟩ : ∃ z, fuel = z + 1 := ⟨fuel - 1, by omega⟩
      rw [f_X6_picked_l12_s, show m = 191 by omega, if_pos (show (191 : Int32) ≤ nI 191 from Int32.le_refl _), f_X6_picked_l62]
      unfold pkv
      by_cases e0 : x = 0
      · rw [if_pos e0, if_pos e0]
      · by_cases e1 : x = 1
        · rw [if_neg e0, if_neg e0, if_pos e1, if_pos e1]
        · rw [if_neg e0, if_neg e0, if_neg e1, if_neg e1]
    | succ d ih =>
      intro m fuel hm hf
      obtain ⟨fuel, rfl⟩ : ∃ z, fuel = z + 1 := ⟨fuel - 1, by omega⟩
      have next := ih (m + 1) fuel (by omega) (by omega)
      rw [pkf, pkl] at next
      rw [f_X6_picked_l12_s, if_neg (show ¬ (191 : Int32) ≤ nI m by rw [nl_191, nI_lei (by omega) (by omega)]; omega), rd_in (by omega) (by omega), Option.bind_some, hA m (by omega)]
      cases hG : G m with
      | false =>
        rw [ct_n hG, hG, if_neg (by intro z; cases z), if_neg (by intro z; cases z)] at next
        rw [if_pos (show bi false = 0 from rfl), f_X6_picked_l56, nI_1]
        exact next
      | true =>
        rw [ct_y hG, hG, if_pos rfl, if_pos rfl] at next
        rw [if_neg (show ¬ bi true = 0 from n10)]
        by_cases e9 : pkf G m = -9
        · rw [if_pos e9] at next
          rw [if_pos e9, f_X6_picked_l48, f_X6_picked_l56, nI_1, nI_1, show (10 : Int32) + nI m = nI (10 + m) by rw [nl_10, nI_add]]
          exact next
        · rw [if_neg e9] at next
          rw [if_neg e9, f_X6_picked_l48, f_X6_picked_l56, nI_1, nI_1, show (10 : Int32) + nI m = nI (10 + m) by rw [nl_10, nI_add]]
          exact next
  exact key 191 0 hm_fu (by omega) (by unfold hm_fu; omega)
/-- what the model has found -/
def fd_is (G : Nat → Bool) (m : Nat) (z9 z10 z11 : Int32) : Prop := z9 = nI (ct G m) ∧ (0 < ct G m → z10 = pkf G m ∧ z11 = pkl G m)
theorem md_finds {G : Nat → Bool} {m : Nat} {z9 z10 z11 : Int32} (hm : m < 191) (h : fd_is G m z9 z10 z11) (hG : G m = true) : ∃ a b c : Int32, f_X8_finds z9 z10 (nI (10 + m)) = some (a, b, c) ∧ fd_is G (m + 1) c a b := by
  obtain ⟨h1, h2⟩ := h
  have hid := ct_id G m
  have h9 := (pkf_9 (G := G) m (by omega)).1
  rw [f_X8_finds, h1]
  unfold fd_is
  rw [pkf, pkl, ct_y hG, if_pos hG, if_pos hG]
  by_cases e : ct G m = 0
  · rw [if_pos (show nI (ct G m) = 0 by rw [e]; rfl), f_X8_finds_l16, nI_1, if_pos (h9.2 e)]
    exact ⟨_, _, _, rfl, rfl, fun _ => ⟨rfl, rfl⟩⟩
  · rw [if_neg (show ¬ nI (ct G m) = 0 by rw [nl_0, nI_eqi (by omega) (by omega)]; exact e), f_X8_finds_l16, nI_1, if_neg (fun z => e (h9.1 z))]
    exact ⟨_, _, _, rfl, rfl, fun _ => ⟨(h2 (by omega)).1, rfl⟩⟩
theorem md_skips {G : Nat → Bool} {m : Nat} {z9 z10 z11 : Int32} (h : fd_is G m z9 z10 z11) (hG : G m = false) : fd_is G (m + 1) z9 z10 z11 := by
  unfold fd_is at h ⊢
  rw [pkf, pkl, ct_n hG, if_neg (by rw [hG]; intro z; cases z), if_neg (by rw [hG]; intro z; cases z)]
  exact h
theorem md_found {G : Nat → Bool} {z9 z10 z11 : Int32} (h : fd_is G 191 z9 z10 z11) (x : Int32) : f_X8_found z9 z10 z11 x = some (pkv G 191 x) := by
  obtain ⟨h1, h2⟩ := h
  have hid := ct_id G 191
  obtain ⟨h9, h10⟩ := pkf_9 (G := G) 191 (by omega)
  rw [f_X8_found, h1]
  unfold pkv
  by_cases e0 : x = 0
  · rw [if_pos e0, if_pos e0]
  rw [if_neg e0, if_neg e0]
  by_cases e : ct G 191 = 0
  · rw [if_pos (show nI (ct G 191) = 0 by rw [e]; rfl), h9.2 e, h10 e]
    split <;> rfl
  · rw [if_neg (show ¬ nI (ct G 191) = 0 by rw [nl_0, nI_eqi (by omega) (by omega)]; exact e), (h2 (by omega)).1, (h2 (by omega)).2]
    split <;> rfl
end PCK
section SET
/-- a rising row is told by the set of what is in it -/
theorem rise_ct {e : Nat → Nat} {L : Nat} (hr : ∀ a b, a < b → b < L → e a < e b) : ∀ n, ct (fun p => anb (fun k => decide (e k = p)) L) n ≤ L ∧ ∀ k, k < L → (e k < n ↔ k < ct (fun p => anb (fun k => decide (e k = p)) L) n)
  | 0 => ⟨Nat.zero_le _, fun k hk => ⟨fun z => absurd z (Nat.not_lt_zero _), fun z => absurd z (Nat.not_lt_zero _)⟩⟩
  | n + 1 => by
    obtain ⟨h1, h2⟩ := rise_ct hr n
    by_cases hx : ∃ k, k < L ∧ e k = n
    · obtain ⟨k, hk, hek⟩ := hx
      have hy : (fun p => anb (fun k => decide (e k = p)) L) n = true := anb_yes hk (decide_eq_true hek)
      have hc : ct (fun p => anb (fun k => decide (e k = p)) L) n = k := by
        rcases Nat.lt_trichotomy (ct (fun p => anb (fun k => decide (e k = p)) L) n) k with z | z | z
        · have h3 := hr _ _ z hk
          have := (h2 _ (show ct (fun p => anb (fun k => decide (e k = p)) L) n < L by omega)).1 (by omega)
          omega
        · exact z
        · have := (h2 k hk).2 z
          omega
      rw [ct_y (p := fun p => anb (fun k => decide (e k = p)) L) (k := n) hy, hc]
      refine ⟨by omega, fun j hj => ?_⟩
      rcases Nat.lt_trichotomy j k with z | z | z
      · have := hr j k z hk
        omega
      · rw [z]; omega
      · have := hr k j z hj
        omega
    · have hy : (fun p => anb (fun k => decide (e k = p)) L) n = false := by
        rw [show (fun p => anb (fun k => decide (e k = p)) L) n = anb (fun k => decide (e k = n)) L from rfl, anb_none (a := 0) (Nat.zero_le _) (fun j _ hj => decide_eq_false (fun z => hx ⟨j, hj, z⟩))]
        rfl
      rw [ct_n (p := fun p => anb (fun k => decide (e k = p)) L) (k := n) hy]
      refine ⟨h1, fun j hj => ?_⟩
      have hne : e j ≠ n := fun z => hx ⟨j, hj, z⟩
      rw [← h2 j hj]
      omega
theorem ct_congr {p q : Nat → Bool} {n : Nat} (h : ∀ j, j < n → p j = q j) : ct p n = ct q n := by
  induction n with
  | zero => rfl
  | succ n ih =>
    rw [ct_s, ct_s, ih (fun j hj => h j (by omega)), h n (by omega)]
theorem rise_eq {e e' : Nat → Nat} {L L' P : Nat} (hr : ∀ a b, a < b → b < L → e a < e b) (hr' : ∀ a b, a < b → b < L' → e' a < e' b) (hb : ∀ k, k < L → e k < P) (hb' : ∀ k, k < L' → e' k < P) (h : ∀ p, p < P → anb (fun k => decide (e k = p)) L = anb (fun k => decide (e' k = p)) L') : L = L' ∧ ∀ k, k < L → e k = e' k := by
  have hc : ∀ n, n ≤ P → ct (fun p => anb (fun k => decide (e k = p)) L) n = ct (fun p => anb (fun k => decide (e' k = p)) L') n := fun n hn => ct_congr (fun j hj => h j (by omega))
  have full : ∀ {e : Nat → Nat} {L : Nat}, (∀ a b, a < b → b < L → e a < e b) → (∀ k, k < L → e k < P) → ct (fun p => anb (fun k => decide (e k = p)) L) P = L := by
    intro e L hr hb
    obtain ⟨h1, h2⟩ := rise_ct hr P
    rcases Nat.lt_or_ge (ct (fun p => anb (fun k => decide (e k = p)) L) P) L with z | z
    · have := (h2 _ z).1 (hb _ z)
      omega
    · omega
  have hL : L = L' := by rw [← full hr hb, ← full hr' hb']; exact hc P (Nat.le_refl _)
  refine ⟨hL, fun k hk => ?_⟩
  have hk' : k < L' := by omega
  have key : ∀ n, n ≤ P → (e k < n ↔ e' k < n) := by
    intro n hn
    rw [(rise_ct hr n).2 k hk, (rise_ct hr' n).2 k hk', hc n hn]
  have k1 := hb k hk
  have k2 := hb' k hk'
  have a1 := (key (e k + 1) (by omega)).1 (by omega)
  have a2 := (key (e' k + 1) (by omega)).2 (by omega)
  omega
end SET
