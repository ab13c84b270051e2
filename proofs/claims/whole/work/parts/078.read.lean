/-! pure: how the class reads a text -/
def nth (p : Nat → Bool) : Nat → Nat → Nat
  | 0, _ => 0
  | n + 1, k => if p n = true ∧ ct p n = k then n else nth p n k
theorem nth_ct {p : Nat → Bool} : ∀ {n j : Nat}, j < n → p j = true → nth p n (ct p j) = j
  | 0, j, h, _ => by omega
  | n + 1, j, h, hp => by
    rw [nth]
    by_cases e : p n = true ∧ ct p n = ct p j
    · rw [if_pos e]; exact ct_inj e.1 hp e.2
    · rw [if_neg e]
      by_cases e2 : j = n
      · exact absurd ⟨by rw [← e2]; exact hp, by rw [e2]⟩ e
      · exact nth_ct (by omega) hp
theorem nth_sp {p : Nat → Bool} {n k : Nat} (h : k < ct p n) : nth p n k < n ∧ p (nth p n k) = true ∧ ct p (nth p n k) = k := by
  obtain ⟨j, h1, h2, h3⟩ := ct_at h
  have := nth_ct h1 h2
  rw [h3] at this
  rw [this]
  exact ⟨h1, h2, h3⟩
theorem nth_mono {p : Nat → Bool} {n a b : Nat} (h : a < b) (hb : b < ct p n) : nth p n a < nth p n b := by
  obtain ⟨a1, a2, a3⟩ := nth_sp (p := p) (n := n) (k := a) (by omega)
  obtain ⟨b1, b2, b3⟩ := nth_sp hb
  exact (ct_lt_iff a2 b2).mp (by omega)
theorem fil_nth {p : Nat → Bool} {val f : Nat → Int32} {k n w : Nat} (h : fil p val k f) (hw : w < ct p k) (hk : k ≤ n) : f w = val (nth p n w) := by
  obtain ⟨j, h1, h2, h3⟩ := ct_at hw
  rw [← h3, nth_ct (by omega) h2]
  exact h j h1 h2
/-- the plain signs in a row, where a word's end in it, and where one begins -/
def qf (N : Nat) (t : Nat → Int32) (i : Nat) : Int32 := t (nth (pq t) N i)
def pe (N : Nat) (t : Nat → Int32) (w : Nat) : Nat := ct (pq t) (nth (we N t) N w + 1)
def ps (N : Nat) (t : Nat → Int32) (w : Nat) : Nat := if w = 0 then 0 else pe N t (w - 1)
theorem pe_mono {N : Nat} {t : Nat → Int32} {a b : Nat} (h : a ≤ b) (hb : b < ct (we N t) N) : pe N t a ≤ pe N t b := by
  unfold pe
  by_cases e : a = b
  · rw [e]; exact Nat.le_refl _
  · have := nth_mono (p := we N t) (n := N) (show a < b by omega) hb
    exact ct_le _ (by omega)
theorem ps_pe {N : Nat} {t : Nat → Int32} {w : Nat} (hb : w < ct (we N t) N) : ps N t w ≤ pe N t w := by
  unfold ps
  split
  · exact Nat.zero_le _
  · exact pe_mono (by omega) hb
def lk (N : Nat) (t : Nat → Int32) (a b : Nat) : Bool := decide (pe N t b - ps N t b = pe N t a - ps N t a ∧ ∀ i, i < pe N t a - ps N t a → qf N t (ps N t a + i) = qf N t (ps N t b + i))
def fs (p : Nat → Bool) : Nat → Nat → Nat
  | 0, k => k
  | n + 1, k => if p k = true then k else fs p n (k + 1)
def fl (N : Nat) (t : Nat → Int32) (w : Nat) : Nat := fs (fun a => lk N t a w) w 0
def ff (N : Nat) (t : Nat → Int32) (w : Nat) : Bool := decide (fl N t w = w)
/-- where the plain signs of the word begin that a letter is in -/
def pst (N : Nat) (t : Nat → Int32) : Nat → Nat
  | 0 => 0
  | k + 1 => if we N t k = true then ct (pq t) (k + 1) else pst N t k
theorem pst_ps {N : Nat} {t : Nat → Int32} : ∀ {k : Nat}, k ≤ N → pst N t k = ps N t (ct (we N t) k)
  | 0, _ => rfl
  | k + 1, h => by
    rw [pst]
    by_cases hw : we N t k = true
    · rw [if_pos hw, ct_y hw]
      unfold ps
      rw [if_neg (by omega), Nat.add_sub_cancel]
      unfold pe
      rw [nth_ct (by omega) hw]
    · rw [if_neg hw, ct_n (by cases hz : we N t k with | true => exact absurd hz hw | false => rfl)]
      exact pst_ps (by omega)
def sr_k (N : Nat) (t : Nat → Int32) (k : Nat) (w0 w1 w2 w3 w4 w5 w6 w7 w8 w9 : hm_SR) : Prop :=
  (w0.1 = nI (ct (nb t) k) ∧ fil (nb t) t k w0.2) ∧ (w1.1 = nI (ct (we N t) k) ∧ fil (we N t) (fun j => nI (ct (nb t) (j + 1))) k w1.2) ∧ (w2.1 = nI (ct (pq t) k) ∧ fil (pq t) t k w2.2) ∧ (w3.1 = nI (ct (we N t) k) ∧ fil (we N t) (fun j => nI (ct (pq t) (j + 1))) k w3.2) ∧ (w4.1 = nI (ct (we N t) k) ∧ fil (we N t) (fun j => nI (ct (pl N t) j)) k w4.2) ∧
  (w5.1 = nI (ct (we N t) k) ∧ ∀ w, w < ct (we N t) k → w5.2 w = nI (fl N t w)) ∧ (w6.1 = nI (ct (ff N t) (ct (we N t) k)) ∧ fil (ff N t) (fun w => nI w) (ct (we N t) k) w6.2) ∧ (w7.1 = nI (ct (pl N t) k) ∧ fil (pl N t) (fun j => nI (ct (we N t) j)) k w7.2) ∧ (w8.1 = nI (ct (pl N t) k) ∧ fil (pl N t) (fun j => nI (ct (pq t) (if sl t j = true then j else j + 1) - pst N t j)) k w8.2) ∧ (w9.1 = nI (ct (pl N t) k) ∧ fil (pl N t) (fun j => if sl t j = true then 1 else 0) k w9.2)
section RDC
variable {N : Nat} {t : Nat → Int32}
theorem cl_start {w3 : hm_SR} {k : Nat} (hk : k ≤ N) (hN : ct (we N t) N ≤ 30) (h : w3.1 = nI (ct (we N t) k) ∧ fil (we N t) (fun j => nI (ct (pq t) (j + 1))) k w3.2) {w : Nat} (hw : w ≤ ct (we N t) k) : f_X3_startOf 30 w3 (nI w) = some (nI (ps N t w)) := by
  have hm := ct_le (we N t) hk
  rw [f_X3_startOf]
  by_cases h0 : w = 0
  · subst h0
    rw [if_pos (by decide)]
    rfl
  · rw [if_neg (nI_nle (by omega) (by omega)), nI_m1 (by omega), rg_in h.1 (by omega) (by omega) (by omega), Option.bind_some, fil_nth h.2 (by omega) hk]
    unfold ps
    rw [if_neg h0]
    rfl
theorem cl_pe {w3 : hm_SR} {k : Nat} (hk : k ≤ N) (hN : ct (we N t) N ≤ 30) (h : w3.1 = nI (ct (we N t) k) ∧ fil (we N t) (fun j => nI (ct (pq t) (j + 1))) k w3.2) {w : Nat} (hw : w < ct (we N t) k) : f_X2_get 30 w3 (nI w) = some (nI (pe N t w)) := by
  have hm := ct_le (we N t) hk
  rw [rg_in h.1 hw (by omega) (by omega), fil_nth h.2 hw hk]
  rfl
theorem cl_alike {w2 w3 : hm_SR} {k : Nat} (hN : N ≤ 200) (hk : k ≤ N) (hW : ct (we N t) N ≤ 30) (h2 : w2.1 = nI (ct (pq t) k) ∧ fil (pq t) t k w2.2) (h3 : w3.1 = nI (ct (we N t) k) ∧ fil (we N t) (fun j => nI (ct (pq t) (j + 1))) k w3.2) {a b : Nat} (ha : a < ct (we N t) k) (hb : b < ct (we N t) k) : f_X3_areSpelledAlike w2 w3 (nI a) (nI b) = some (if lk N t a b = true then 1 else 0) := by
  have hm := ct_le (we N t) hk
  have hpe : ∀ w, w < ct (we N t) k → pe N t w ≤ ct (pq t) k := by
    intro w hw
    obtain ⟨j, j1, j2, j3⟩ := ct_at hw
    unfold pe
    rw [← j3, nth_ct (by omega) j2]
    exact ct_le _ (by omega)
  have hk2 := ct_bound (pq t) k
  have pa := hpe a ha
  have pb := hpe b hb
  have sa := ps_pe (N := N) (t := t) (w := a) (by omega)
  have sb := ps_pe (N := N) (t := t) (w := b) (by omega)
  rw [f_X3_areSpelledAlike, cl_start hk hW h3 (by omega), Option.bind_some, cl_start hk hW h3 (by omega), Option.bind_some, cl_pe hk hW h3 ha, Option.bind_some, cl_pe hk hW h3 hb, Option.bind_some, pk_sub sa, pk_sub sb]
  by_cases hl : pe N t b - ps N t b = pe N t a - ps N t a
  · rw [if_pos (by rw [hl])]
    have key : ∀ (d i fuel : Nat), pe N t a - ps N t a = i + d → d < fuel → (∀ x, x < i → qf N t (ps N t a + x) = qf N t (ps N t b + x)) → f_X3_areSpelledAlike_l52 w2 fuel (nI (ps N t a)) (nI (ps N t b)) (nI (pe N t a - ps N t a)) (nI i) = some (if lk N t a b = true then 1 else 0) := by
      intro d
      induction d with
      | zero =>
        intro i fuel hi hf hx
        obtain ⟨fuel, rfl⟩ : ∃ z, fuel = z + 1 := ⟨fuel - 1, by omega⟩
        rw [f_X3_areSpelledAlike_l52_s, if_pos (by rw [nI_lei (by omega) (by omega)]; omega), if_pos]
        unfold lk
        exact decide_eq_true ⟨hl, fun x h => hx x (by omega)⟩
      | succ d ih =>
        intro i fuel hi hf hx
        obtain ⟨fuel, rfl⟩ : ∃ z, fuel = z + 1 := ⟨fuel - 1, by omega⟩
        rw [f_X3_areSpelledAlike_l52_s, if_neg (by rw [nI_lei (by omega) (by omega)]; omega), nI_add, nI_add, rg_in h2.1 (by omega) (by omega) (by omega), Option.bind_some, rg_in h2.1 (by omega) (by omega) (by omega), Option.bind_some, fil_nth h2.2 (by omega) hk, fil_nth h2.2 (by omega) hk]
        by_cases he : t (nth (pq t) N (ps N t a + i)) = t (nth (pq t) N (ps N t b + i))
        · rw [if_pos he, nI_1]
          refine ih (i + 1) fuel (by omega) (by omega) (fun x h => ?_)
          by_cases e : x = i
          · rw [e]; exact he
          · exact hx x (by omega)
        · rw [if_neg he, if_neg]
          unfold lk
          intro z
          exact he ((of_decide_eq_true z).2 i (by omega))
    exact key (pe N t a - ps N t a) 0 hm_fu (by omega) (by unfold hm_fu; omega) (fun x h => by omega)
  · rw [if_neg (by rw [nI_eqi (by omega) (by omega)]; exact hl), if_neg]
    unfold lk
    intro z
    exact hl (of_decide_eq_true z).1
theorem cl_first {w2 w3 : hm_SR} {k : Nat} (hN : N ≤ 200) (hk : k ≤ N) (hW : ct (we N t) N ≤ 30) (h2 : w2.1 = nI (ct (pq t) k) ∧ fil (pq t) t k w2.2) (h3 : w3.1 = nI (ct (we N t) k) ∧ fil (we N t) (fun j => nI (ct (pq t) (j + 1))) k w3.2) {w : Nat} (hw : w < ct (we N t) k) : f_X3_firstLike w2 w3 (nI w) = some (nI (fl N t w)) := by
  have hm := ct_le (we N t) hk
  have key : ∀ (d i fuel : Nat), w = i + d → d < fuel → f_X3_firstLike_l2 w2 w3 (nI w) fuel (nI i) = some (nI (fs (fun a => lk N t a w) d i)) := by
    intro d
    induction d with
    | zero =>
      intro i fuel hi hf
      obtain ⟨fuel, rfl⟩ : ∃ z, fuel = z + 1 := ⟨fuel - 1, by omega⟩
      rw [f_X3_firstLike_l2_s, if_pos (by rw [nI_lei (by omega) (by omega)]; omega), show w = i by omega]
      rfl
    | succ d ih =>
      intro i fuel hi hf
      obtain ⟨fuel, rfl⟩ : ∃ z, fuel = z + 1 := ⟨fuel - 1, by omega⟩
      rw [f_X3_firstLike_l2_s, if_neg (by rw [nI_lei (by omega) (by omega)]; omega), cl_alike hN hk hW h2 h3 (by omega) hw, Option.bind_some, fs]
      by_cases hl : lk N t i w = true
      · rw [if_pos hl, if_neg n10, if_pos hl]
      · rw [if_neg hl, if_pos n00, if_neg hl, nI_1]
        exact ih (i + 1) fuel (by omega) (by omega)
  exact key w 0 hm_fu (by omega) (by unfold hm_fu; omega)
end RDC
