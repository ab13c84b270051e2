abbrev hm_RT : Type := (Nat → hm_SR) → (Nat → Int32) → (Nat → hm_SR) → (Nat → hm_SR) → (Nat → Nat → Int32) → (Nat → hm_SR) → (Nat → Int32) → (Nat → Nat → Int32) → (Nat → hm_SR) → (Nat → Int32) → (Nat → Nat → Int32) → (Nat → Nat → Int64) → (Nat → Nat → Int32) → (Nat → Int32) → Prop
def hm_St_type (Rel : hm_RT) : Prop := ∀ (R : Nat → hm_SR) (Z : Nat → Int32) (ScR : Nat → hm_SR) (SeR : Nat → hm_SR) (SeA : Nat → Nat → Int32) (LeR : Nat → hm_SR) (LeZ : Nat → Int32) (BrA : Nat → Nat → Int32) (ShR : Nat → hm_SR) (ShZ : Nat → Int32) (SuA : Nat → Nat → Int32) (SuJ : Nat → Nat → Int64) (A9 : Nat → Nat → Int32) (Z9 : Nat → Int32), Rel R Z ScR SeR SeA LeR LeZ BrA ShR ShZ SuA SuJ A9 Z9 → ∀ (x0 : Int32), ∃ (q : Int32 × hm_SR) (q9 : Int32 × (Nat → Int32) × Int32), f_X7_type (R 0) x0 = some q ∧ f_X8_type (A9 0) (Z9 0) x0 = some q9 ∧ q.1 = q9.1 ∧ Rel (hm_up R 0 q.2) Z ScR SeR SeA LeR LeZ BrA ShR ShZ SuA SuJ (hm_up A9 0 q9.2.1) (hm_up Z9 0 q9.2.2)
def hm_St_clear (Rel : hm_RT) : Prop := ∀ (R : Nat → hm_SR) (Z : Nat → Int32) (ScR : Nat → hm_SR) (SeR : Nat → hm_SR) (SeA : Nat → Nat → Int32) (LeR : Nat → hm_SR) (LeZ : Nat → Int32) (BrA : Nat → Nat → Int32) (ShR : Nat → hm_SR) (ShZ : Nat → Int32) (SuA : Nat → Nat → Int32) (SuJ : Nat → Nat → Int64) (A9 : Nat → Nat → Int32) (Z9 : Nat → Int32), Rel R Z ScR SeR SeA LeR LeZ BrA ShR ShZ SuA SuJ A9 Z9 → ∀ (_ : Unit), ∃ (q : Int32 × hm_SR) (q9 : Int32 × Int32), f_X7_clear (R 0) = some q ∧ f_X8_clear (Z9 0) = some q9 ∧ q.1 = q9.1 ∧ Rel (hm_up R 0 q.2) Z ScR SeR SeA LeR LeZ BrA ShR ShZ SuA SuJ A9 (hm_up Z9 0 q9.2)
def hm_St_words (Rel : hm_RT) : Prop := ∀ (R : Nat → hm_SR) (Z : Nat → Int32) (ScR : Nat → hm_SR) (SeR : Nat → hm_SR) (SeA : Nat → Nat → Int32) (LeR : Nat → hm_SR) (LeZ : Nat → Int32) (BrA : Nat → Nat → Int32) (ShR : Nat → hm_SR) (ShZ : Nat → Int32) (SuA : Nat → Nat → Int32) (SuJ : Nat → Nat → Int64) (A9 : Nat → Nat → Int32) (Z9 : Nat → Int32), Rel R Z ScR SeR SeA LeR LeZ BrA ShR ShZ SuA SuJ A9 Z9 → ∀ (_ : Unit), ∃ (q : Int32 × hm_SR × hm_SR × hm_SR × hm_SR × hm_SR × hm_SR × hm_SR × hm_SR × hm_SR × hm_SR × hm_SR × hm_SR × hm_SR × hm_SR × (Nat → Int32) × (Nat → Int32) × hm_SR × hm_SR × Int32 × Int32) (q9 : Int32 × (Nat → Int32) × (Nat → Int32) × (Nat → Int32) × (Nat → Int32) × (Nat → Int32) × (Nat → Int32) × (Nat → Int32) × (Nat → Int32) × Int32 × Int32 × Int32 × Int32 × Int32 × Int32 × Int32), f_X7_words (R 0) (R 1) (R 2) (R 3) (Z 0) (Z 1) (ScR 0) (ScR 1) (ScR 2) (ScR 3) (ScR 4) (ScR 5) (ScR 6) (ScR 7) (ScR 8) (ScR 9) (SeR 0) (SeR 1) (SeA 0) (SeA 2) = some q ∧ f_X8_words (A9 0) (A9 1) (A9 2) (A9 3) (A9 4) (A9 5) (A9 6) (A9 7) (A9 9) (Z9 0) (Z9 1) (Z9 2) (Z9 3) (Z9 4) (Z9 5) (Z9 6) = some q9 ∧ q.1 = q9.1 ∧ Rel (hm_up (hm_up (hm_up (hm_up R 0 q.2.1) 1 q.2.2.1) 2 q.2.2.2.1) 3 q.2.2.2.2.1) (hm_up (hm_up Z 0 q.2.2.2.2.2.2.2.2.2.2.2.2.2.2.2.2.2.2.2.1) 1 q.2.2.2.2.2.2.2.2.2.2.2.2.2.2.2.2.2.2.2.2) (hm_up (hm_up (hm_up (hm_up (hm_up (hm_up (hm_up (hm_up (hm_up (hm_up ScR 0 q.2.2.2.2.2.1) 1 q.2.2.2.2.2.2.1) 2 q.2.2.2.2.2.2.2.1) 3 q.2.2.2.2.2.2.2.2.1) 4 q.2.2.2.2.2.2.2.2.2.1) 5 q.2.2.2.2.2.2.2.2.2.2.1) 6 q.2.2.2.2.2.2.2.2.2.2.2.1) 7 q.2.2.2.2.2.2.2.2.2.2.2.2.1) 8 q.2.2.2.2.2.2.2.2.2.2.2.2.2.1) 9 q.2.2.2.2.2.2.2.2.2.2.2.2.2.2.1) (hm_up (hm_up SeR 0 q.2.2.2.2.2.2.2.2.2.2.2.2.2.2.2.2.2.1) 1 q.2.2.2.2.2.2.2.2.2.2.2.2.2.2.2.2.2.2.1) (hm_up (hm_up SeA 0 q.2.2.2.2.2.2.2.2.2.2.2.2.2.2.2.1) 2 q.2.2.2.2.2.2.2.2.2.2.2.2.2.2.2.2.1) LeR LeZ BrA ShR ShZ SuA SuJ (hm_up (hm_up (hm_up (hm_up (hm_up (hm_up (hm_up (hm_up A9 1 q9.2.1) 2 q9.2.2.1) 3 q9.2.2.2.1) 4 q9.2.2.2.2.1) 5 q9.2.2.2.2.2.1) 6 q9.2.2.2.2.2.2.1) 7 q9.2.2.2.2.2.2.2.1) 9 q9.2.2.2.2.2.2.2.2.1) (hm_up (hm_up (hm_up (hm_up (hm_up (hm_up (hm_up Z9 0 q9.2.2.2.2.2.2.2.2.2.1) 1 q9.2.2.2.2.2.2.2.2.2.2.1) 2 q9.2.2.2.2.2.2.2.2.2.2.2.1) 3 q9.2.2.2.2.2.2.2.2.2.2.2.2.1) 4 q9.2.2.2.2.2.2.2.2.2.2.2.2.2.1) 5 q9.2.2.2.2.2.2.2.2.2.2.2.2.2.2.1) 6 q9.2.2.2.2.2.2.2.2.2.2.2.2.2.2.2)
def hm_St_word (Rel : hm_RT) : Prop := ∀ (R : Nat → hm_SR) (Z : Nat → Int32) (ScR : Nat → hm_SR) (SeR : Nat → hm_SR) (SeA : Nat → Nat → Int32) (LeR : Nat → hm_SR) (LeZ : Nat → Int32) (BrA : Nat → Nat → Int32) (ShR : Nat → hm_SR) (ShZ : Nat → Int32) (SuA : Nat → Nat → Int32) (SuJ : Nat → Nat → Int64) (A9 : Nat → Nat → Int32) (Z9 : Nat → Int32), Rel R Z ScR SeR SeA LeR LeZ BrA ShR ShZ SuA SuJ A9 Z9 → ∀ (x0 x1 : Int32), ∃ (q : Int32) (q9 : Int32), f_X7_word (ScR 0) (ScR 1) x0 x1 = some q ∧ f_X8_word (A9 1) (A9 2) (A9 3) (Z9 2) x0 x1 = some q9 ∧ q = q9 ∧ Rel R Z ScR SeR SeA LeR LeZ BrA ShR ShZ SuA SuJ A9 Z9
def hm_St_different (Rel : hm_RT) : Prop := ∀ (R : Nat → hm_SR) (Z : Nat → Int32) (ScR : Nat → hm_SR) (SeR : Nat → hm_SR) (SeA : Nat → Nat → Int32) (LeR : Nat → hm_SR) (LeZ : Nat → Int32) (BrA : Nat → Nat → Int32) (ShR : Nat → hm_SR) (ShZ : Nat → Int32) (SuA : Nat → Nat → Int32) (SuJ : Nat → Nat → Int64) (A9 : Nat → Nat → Int32) (Z9 : Nat → Int32), Rel R Z ScR SeR SeA LeR LeZ BrA ShR ShZ SuA SuJ A9 Z9 → ∀ (x0 x1 : Int32), ∃ (q : Int32) (q9 : Int32), f_X7_different (ScR 5) (ScR 6) x0 x1 = some q ∧ f_X8_different (A9 1) (A9 2) (A9 3) (Z9 2) x0 x1 = some q9 ∧ q = q9 ∧ Rel R Z ScR SeR SeA LeR LeZ BrA ShR ShZ SuA SuJ A9 Z9
def hm_St_place (Rel : hm_RT) : Prop := ∀ (R : Nat → hm_SR) (Z : Nat → Int32) (ScR : Nat → hm_SR) (SeR : Nat → hm_SR) (SeA : Nat → Nat → Int32) (LeR : Nat → hm_SR) (LeZ : Nat → Int32) (BrA : Nat → Nat → Int32) (ShR : Nat → hm_SR) (ShZ : Nat → Int32) (SuA : Nat → Nat → Int32) (SuJ : Nat → Nat → Int64) (A9 : Nat → Nat → Int32) (Z9 : Nat → Int32), Rel R Z ScR SeR SeA LeR LeZ BrA ShR ShZ SuA SuJ A9 Z9 → ∀ (x0 x1 : Int32), ∃ (q : Int32) (q9 : Int32), f_X7_place (ScR 7) (ScR 8) (ScR 9) x0 x1 = some q ∧ f_X8_place (A9 1) (A9 2) (A9 4) (A9 5) (A9 6) (Z9 3) x0 x1 = some q9 ∧ q = q9 ∧ Rel R Z ScR SeR SeA LeR LeZ BrA ShR ShZ SuA SuJ A9 Z9
def hm_St_wide (Rel : hm_RT) : Prop := ∀ (R : Nat → hm_SR) (Z : Nat → Int32) (ScR : Nat → hm_SR) (SeR : Nat → hm_SR) (SeA : Nat → Nat → Int32) (LeR : Nat → hm_SR) (LeZ : Nat → Int32) (BrA : Nat → Nat → Int32) (ShR : Nat → hm_SR) (ShZ : Nat → Int32) (SuA : Nat → Nat → Int32) (SuJ : Nat → Nat → Int64) (A9 : Nat → Nat → Int32) (Z9 : Nat → Int32), Rel R Z ScR SeR SeA LeR LeZ BrA ShR ShZ SuA SuJ A9 Z9 → ∀ (x0 x1 : Int32), ∃ (q : Int32 × (Nat → Int32) × hm_SR × hm_SR × Int32 × Int32) (q9 : Int32 × (Nat → Int32) × (Nat → Int32) × Int32), f_X7_wide (Z 0) (Z 1) (SeR 0) (SeR 1) (SeA 0) x0 x1 = some q ∧ f_X8_wide (A9 7) (A9 8) (Z9 4) x0 x1 = some q9 ∧ q.1 = q9.1 ∧ Rel R (hm_up (hm_up Z 0 q.2.2.2.2.1) 1 q.2.2.2.2.2) ScR (hm_up (hm_up SeR 0 q.2.2.1) 1 q.2.2.2.1) (hm_up SeA 0 q.2.1) LeR LeZ BrA ShR ShZ SuA SuJ (hm_up (hm_up A9 7 q9.2.1) 8 q9.2.2.1) (hm_up Z9 4 q9.2.2.2)
def hm_St_hangs (Rel : hm_RT) : Prop := ∀ (R : Nat → hm_SR) (Z : Nat → Int32) (ScR : Nat → hm_SR) (SeR : Nat → hm_SR) (SeA : Nat → Nat → Int32) (LeR : Nat → hm_SR) (LeZ : Nat → Int32) (BrA : Nat → Nat → Int32) (ShR : Nat → hm_SR) (ShZ : Nat → Int32) (SuA : Nat → Nat → Int32) (SuJ : Nat → Nat → Int64) (A9 : Nat → Nat → Int32) (Z9 : Nat → Int32), Rel R Z ScR SeR SeA LeR LeZ BrA ShR ShZ SuA SuJ A9 Z9 → ∀ (x0 x1 : Int32), ∃ (q : Int32 × (Nat → Int32) × hm_SR × hm_SR × Int32 × Int32) (q9 : Int32 × (Nat → Int32) × (Nat → Int32) × Int32), f_X7_hangs (Z 0) (Z 1) (SeR 0) (SeR 1) (SeA 0) x0 x1 = some q ∧ f_X8_hangs (A9 7) (A9 8) (Z9 4) x0 x1 = some q9 ∧ q.1 = q9.1 ∧ Rel R (hm_up (hm_up Z 0 q.2.2.2.2.1) 1 q.2.2.2.2.2) ScR (hm_up (hm_up SeR 0 q.2.2.1) 1 q.2.2.2.1) (hm_up SeA 0 q.2.1) LeR LeZ BrA ShR ShZ SuA SuJ (hm_up (hm_up A9 7 q9.2.1) 8 q9.2.2.1) (hm_up Z9 4 q9.2.2.2)
def hm_St_sets (Rel : hm_RT) : Prop := ∀ (R : Nat → hm_SR) (Z : Nat → Int32) (ScR : Nat → hm_SR) (SeR : Nat → hm_SR) (SeA : Nat → Nat → Int32) (LeR : Nat → hm_SR) (LeZ : Nat → Int32) (BrA : Nat → Nat → Int32) (ShR : Nat → hm_SR) (ShZ : Nat → Int32) (SuA : Nat → Nat → Int32) (SuJ : Nat → Nat → Int64) (A9 : Nat → Nat → Int32) (Z9 : Nat → Int32), Rel R Z ScR SeR SeA LeR LeZ BrA ShR ShZ SuA SuJ A9 Z9 → ∀ (x0 x1 : Int32), ∃ (q : Int32 × (Nat → Int32) × hm_SR × hm_SR × Int32 × Int32) (q9 : Int32 × (Nat → Int32) × (Nat → Int32) × Int32), f_X7_sets (Z 0) (Z 1) (SeR 0) (SeR 1) (SeA 0) x0 x1 = some q ∧ f_X8_sets (A9 7) (A9 8) (Z9 4) x0 x1 = some q9 ∧ q.1 = q9.1 ∧ Rel R (hm_up (hm_up Z 0 q.2.2.2.2.1) 1 q.2.2.2.2.2) ScR (hm_up (hm_up SeR 0 q.2.2.1) 1 q.2.2.2.1) (hm_up SeA 0 q.2.1) LeR LeZ BrA ShR ShZ SuA SuJ (hm_up (hm_up A9 7 q9.2.1) 8 q9.2.2.1) (hm_up Z9 4 q9.2.2.2)
def hm_St_undo (Rel : hm_RT) : Prop := ∀ (R : Nat → hm_SR) (Z : Nat → Int32) (ScR : Nat → hm_SR) (SeR : Nat → hm_SR) (SeA : Nat → Nat → Int32) (LeR : Nat → hm_SR) (LeZ : Nat → Int32) (BrA : Nat → Nat → Int32) (ShR : Nat → hm_SR) (ShZ : Nat → Int32) (SuA : Nat → Nat → Int32) (SuJ : Nat → Nat → Int64) (A9 : Nat → Nat → Int32) (Z9 : Nat → Int32), Rel R Z ScR SeR SeA LeR LeZ BrA ShR ShZ SuA SuJ A9 Z9 → ∀ (_ : Unit), ∃ (q : Int32 × (Nat → Int32) × hm_SR × hm_SR × Int32 × Int32) (q9 : Int32 × (Nat → Int32) × Int32), f_X7_undo (Z 0) (Z 1) (SeR 0) (SeR 1) (SeA 0) = some q ∧ f_X8_undo (A9 7) (A9 8) (Z9 4) = some q9 ∧ q.1 = q9.1 ∧ Rel R (hm_up (hm_up Z 0 q.2.2.2.2.1) 1 q.2.2.2.2.2) ScR (hm_up (hm_up SeR 0 q.2.2.1) 1 q.2.2.2.1) (hm_up SeA 0 q.2.1) LeR LeZ BrA ShR ShZ SuA SuJ (hm_up A9 7 q9.2.1) (hm_up Z9 4 q9.2.2)
def hm_St_page (Rel : hm_RT) : Prop := ∀ (R : Nat → hm_SR) (Z : Nat → Int32) (ScR : Nat → hm_SR) (SeR : Nat → hm_SR) (SeA : Nat → Nat → Int32) (LeR : Nat → hm_SR) (LeZ : Nat → Int32) (BrA : Nat → Nat → Int32) (ShR : Nat → hm_SR) (ShZ : Nat → Int32) (SuA : Nat → Nat → Int32) (SuJ : Nat → Nat → Int64) (A9 : Nat → Nat → Int32) (Z9 : Nat → Int32), Rel R Z ScR SeR SeA LeR LeZ BrA ShR ShZ SuA SuJ A9 Z9 → ∀ (x0 : Int32), ∃ (q : Int32 × (Nat → Int32) × (Nat → Int32) × (Nat → Int32) × hm_SR × hm_SR × hm_SR × hm_SR × hm_SR × Int32 × Int32 × Int32 × Int32 × hm_SR × hm_SR × hm_SR × hm_SR × hm_SR × hm_SR × Int32 × Int32 × Int32) (q9 : Int32 × (Nat → Int32) × (Nat → Int32) × (Nat → Int32) × (Nat → Int32) × (Nat → Int32) × (Nat → Int32) × (Nat → Int32) × (Nat → Int32) × (Nat → Int32) × (Nat → Int32) × Int32 × Int32), f_X7_page (Z 0) (ScR 0) (ScR 1) (SeA 0) (LeR 0) (LeR 1) (LeR 2) (LeR 3) (LeR 4) (LeZ 0) (LeZ 1) (LeZ 2) (LeZ 3) (BrA 0) (BrA 1) (BrA 2) (ShR 0) (ShR 1) (ShR 2) (ShR 3) (ShR 4) (ShR 5) (ShZ 0) (ShZ 1) x0 = some q ∧ f_X8_page (A9 1) (A9 2) (A9 3) (A9 4) (A9 5) (A9 6) (A9 7) (A9 14) (A9 15) (A9 16) (A9 17) (A9 18) (A9 19) (A9 20) (A9 21) (A9 22) (A9 23) (Z9 1) (Z9 3) (Z9 7) (Z9 8) x0 = some q9 ∧ q.1 = q9.1 ∧ Rel R (hm_up Z 0 q.2.2.2.2.2.2.2.2.2.2.2.2.2.2.2.2.2.2.2.2.2) ScR SeR SeA (hm_up (hm_up (hm_up (hm_up (hm_up LeR 0 q.2.2.2.2.1) 1 q.2.2.2.2.2.1) 2 q.2.2.2.2.2.2.1) 3 q.2.2.2.2.2.2.2.1) 4 q.2.2.2.2.2.2.2.2.1) (hm_up (hm_up (hm_up (hm_up LeZ 0 q.2.2.2.2.2.2.2.2.2.1) 1 q.2.2.2.2.2.2.2.2.2.2.1) 2 q.2.2.2.2.2.2.2.2.2.2.2.1) 3 q.2.2.2.2.2.2.2.2.2.2.2.2.1) (hm_up (hm_up (hm_up BrA 0 q.2.1) 1 q.2.2.1) 2 q.2.2.2.1) (hm_up (hm_up (hm_up (hm_up (hm_up (hm_up ShR 0 q.2.2.2.2.2.2.2.2.2.2.2.2.2.1) 1 q.2.2.2.2.2.2.2.2.2.2.2.2.2.2.1) 2 q.2.2.2.2.2.2.2.2.2.2.2.2.2.2.2.1) 3 q.2.2.2.2.2.2.2.2.2.2.2.2.2.2.2.2.1) 4 q.2.2.2.2.2.2.2.2.2.2.2.2.2.2.2.2.2.1) 5 q.2.2.2.2.2.2.2.2.2.2.2.2.2.2.2.2.2.2.1) (hm_up (hm_up ShZ 0 q.2.2.2.2.2.2.2.2.2.2.2.2.2.2.2.2.2.2.2.1) 1 q.2.2.2.2.2.2.2.2.2.2.2.2.2.2.2.2.2.2.2.2.1) SuA SuJ (hm_up (hm_up (hm_up (hm_up (hm_up (hm_up (hm_up (hm_up (hm_up (hm_up A9 14 q9.2.1) 15 q9.2.2.1) 16 q9.2.2.2.1) 17 q9.2.2.2.2.1) 18 q9.2.2.2.2.2.1) 19 q9.2.2.2.2.2.2.1) 20 q9.2.2.2.2.2.2.2.1) 21 q9.2.2.2.2.2.2.2.2.1) 22 q9.2.2.2.2.2.2.2.2.2.1) 23 q9.2.2.2.2.2.2.2.2.2.2.1) (hm_up (hm_up Z9 7 q9.2.2.2.2.2.2.2.2.2.2.2.1) 8 q9.2.2.2.2.2.2.2.2.2.2.2.2)
def hm_St_line (Rel : hm_RT) : Prop := ∀ (R : Nat → hm_SR) (Z : Nat → Int32) (ScR : Nat → hm_SR) (SeR : Nat → hm_SR) (SeA : Nat → Nat → Int32) (LeR : Nat → hm_SR) (LeZ : Nat → Int32) (BrA : Nat → Nat → Int32) (ShR : Nat → hm_SR) (ShZ : Nat → Int32) (SuA : Nat → Nat → Int32) (SuJ : Nat → Nat → Int64) (A9 : Nat → Nat → Int32) (Z9 : Nat → Int32), Rel R Z ScR SeR SeA LeR LeZ BrA ShR ShZ SuA SuJ A9 Z9 → ∀ (x0 x1 : Int32), ∃ (q : Int32 × (Nat → Int32) × (Nat → Int32) × (Nat → Int32) × hm_SR × hm_SR × hm_SR × hm_SR × hm_SR × Int32 × Int32 × Int32 × Int32 × hm_SR × hm_SR × hm_SR × hm_SR × hm_SR × hm_SR × Int32 × Int32 × Int32) (q9 : Int32 × (Nat → Int32) × (Nat → Int32) × (Nat → Int32) × (Nat → Int32) × (Nat → Int32) × Int32), f_X7_line (Z 0) (ScR 0) (ScR 1) (SeA 0) (LeR 0) (LeR 1) (LeR 2) (LeR 3) (LeR 4) (LeZ 0) (LeZ 1) (LeZ 2) (LeZ 3) (BrA 0) (BrA 1) (BrA 2) (ShR 0) (ShR 1) (ShR 2) (ShR 3) (ShR 4) (ShR 5) (ShZ 0) (ShZ 1) x0 x1 = some q ∧ f_X8_line (A9 1) (A9 2) (A9 4) (A9 5) (A9 6) (A9 7) (A9 14) (A9 15) (A9 16) (A9 17) (A9 18) (Z9 1) (Z9 3) (Z9 7) x0 x1 = some q9 ∧ q.1 = q9.1 ∧ Rel R (hm_up Z 0 q.2.2.2.2.2.2.2.2.2.2.2.2.2.2.2.2.2.2.2.2.2) ScR SeR SeA (hm_up (hm_up (hm_up (hm_up (hm_up LeR 0 q.2.2.2.2.1) 1 q.2.2.2.2.2.1) 2 q.2.2.2.2.2.2.1) 3 q.2.2.2.2.2.2.2.1) 4 q.2.2.2.2.2.2.2.2.1) (hm_up (hm_up (hm_up (hm_up LeZ 0 q.2.2.2.2.2.2.2.2.2.1) 1 q.2.2.2.2.2.2.2.2.2.2.1) 2 q.2.2.2.2.2.2.2.2.2.2.2.1) 3 q.2.2.2.2.2.2.2.2.2.2.2.2.1) (hm_up (hm_up (hm_up BrA 0 q.2.1) 1 q.2.2.1) 2 q.2.2.2.1) (hm_up (hm_up (hm_up (hm_up (hm_up (hm_up ShR 0 q.2.2.2.2.2.2.2.2.2.2.2.2.2.1) 1 q.2.2.2.2.2.2.2.2.2.2.2.2.2.2.1) 2 q.2.2.2.2.2.2.2.2.2.2.2.2.2.2.2.1) 3 q.2.2.2.2.2.2.2.2.2.2.2.2.2.2.2.2.1) 4 q.2.2.2.2.2.2.2.2.2.2.2.2.2.2.2.2.2.1) 5 q.2.2.2.2.2.2.2.2.2.2.2.2.2.2.2.2.2.2.1) (hm_up (hm_up ShZ 0 q.2.2.2.2.2.2.2.2.2.2.2.2.2.2.2.2.2.2.2.1) 1 q.2.2.2.2.2.2.2.2.2.2.2.2.2.2.2.2.2.2.2.2.1) SuA SuJ (hm_up (hm_up (hm_up (hm_up (hm_up A9 14 q9.2.1) 15 q9.2.2.1) 16 q9.2.2.2.1) 17 q9.2.2.2.2.1) 18 q9.2.2.2.2.2.1) (hm_up Z9 7 q9.2.2.2.2.2.2)
def hm_St_blank (Rel : hm_RT) : Prop := ∀ (R : Nat → hm_SR) (Z : Nat → Int32) (ScR : Nat → hm_SR) (SeR : Nat → hm_SR) (SeA : Nat → Nat → Int32) (LeR : Nat → hm_SR) (LeZ : Nat → Int32) (BrA : Nat → Nat → Int32) (ShR : Nat → hm_SR) (ShZ : Nat → Int32) (SuA : Nat → Nat → Int32) (SuJ : Nat → Nat → Int64) (A9 : Nat → Nat → Int32) (Z9 : Nat → Int32), Rel R Z ScR SeR SeA LeR LeZ BrA ShR ShZ SuA SuJ A9 Z9 → ∀ (x0 x1 x2 : Int32), ∃ (q : Int32 × (Nat → Int32) × (Nat → Int32) × (Nat → Int32) × hm_SR × hm_SR × hm_SR × hm_SR × hm_SR × Int32 × Int32 × Int32 × Int32 × hm_SR × hm_SR × hm_SR × hm_SR × hm_SR × hm_SR × Int32 × Int32 × Int32) (q9 : Int32 × (Nat → Int32) × (Nat → Int32) × (Nat → Int32) × (Nat → Int32) × (Nat → Int32) × (Nat → Int32) × (Nat → Int32) × (Nat → Int32) × (Nat → Int32) × (Nat → Int32) × Int32 × Int32), f_X7_blank (Z 0) (ScR 0) (ScR 1) (SeA 0) (LeR 0) (LeR 1) (LeR 2) (LeR 3) (LeR 4) (LeZ 0) (LeZ 1) (LeZ 2) (LeZ 3) (BrA 0) (BrA 1) (BrA 2) (ShR 0) (ShR 1) (ShR 2) (ShR 3) (ShR 4) (ShR 5) (ShZ 0) (ShZ 1) x0 x1 x2 = some q ∧ f_X8_blank (A9 1) (A9 2) (A9 3) (A9 4) (A9 5) (A9 6) (A9 7) (A9 14) (A9 15) (A9 16) (A9 17) (A9 18) (A9 19) (A9 20) (A9 21) (A9 22) (A9 23) (Z9 1) (Z9 3) (Z9 7) (Z9 8) x0 x1 x2 = some q9 ∧ q.1 = q9.1 ∧ Rel R (hm_up Z 0 q.2.2.2.2.2.2.2.2.2.2.2.2.2.2.2.2.2.2.2.2.2) ScR SeR SeA (hm_up (hm_up (hm_up (hm_up (hm_up LeR 0 q.2.2.2.2.1) 1 q.2.2.2.2.2.1) 2 q.2.2.2.2.2.2.1) 3 q.2.2.2.2.2.2.2.1) 4 q.2.2.2.2.2.2.2.2.1) (hm_up (hm_up (hm_up (hm_up LeZ 0 q.2.2.2.2.2.2.2.2.2.1) 1 q.2.2.2.2.2.2.2.2.2.2.1) 2 q.2.2.2.2.2.2.2.2.2.2.2.1) 3 q.2.2.2.2.2.2.2.2.2.2.2.2.1) (hm_up (hm_up (hm_up BrA 0 q.2.1) 1 q.2.2.1) 2 q.2.2.2.1) (hm_up (hm_up (hm_up (hm_up (hm_up (hm_up ShR 0 q.2.2.2.2.2.2.2.2.2.2.2.2.2.1) 1 q.2.2.2.2.2.2.2.2.2.2.2.2.2.2.1) 2 q.2.2.2.2.2.2.2.2.2.2.2.2.2.2.2.1) 3 q.2.2.2.2.2.2.2.2.2.2.2.2.2.2.2.2.1) 4 q.2.2.2.2.2.2.2.2.2.2.2.2.2.2.2.2.2.1) 5 q.2.2.2.2.2.2.2.2.2.2.2.2.2.2.2.2.2.2.1) (hm_up (hm_up ShZ 0 q.2.2.2.2.2.2.2.2.2.2.2.2.2.2.2.2.2.2.2.1) 1 q.2.2.2.2.2.2.2.2.2.2.2.2.2.2.2.2.2.2.2.2.1) SuA SuJ (hm_up (hm_up (hm_up (hm_up (hm_up (hm_up (hm_up (hm_up (hm_up (hm_up A9 14 q9.2.1) 15 q9.2.2.1) 16 q9.2.2.2.1) 17 q9.2.2.2.2.1) 18 q9.2.2.2.2.2.1) 19 q9.2.2.2.2.2.2.1) 20 q9.2.2.2.2.2.2.2.1) 21 q9.2.2.2.2.2.2.2.2.1) 22 q9.2.2.2.2.2.2.2.2.2.1) 23 q9.2.2.2.2.2.2.2.2.2.2.1) (hm_up (hm_up Z9 7 q9.2.2.2.2.2.2.2.2.2.2.2.1) 8 q9.2.2.2.2.2.2.2.2.2.2.2.2)
def hm_St_leftOf (Rel : hm_RT) : Prop := ∀ (R : Nat → hm_SR) (Z : Nat → Int32) (ScR : Nat → hm_SR) (SeR : Nat → hm_SR) (SeA : Nat → Nat → Int32) (LeR : Nat → hm_SR) (LeZ : Nat → Int32) (BrA : Nat → Nat → Int32) (ShR : Nat → hm_SR) (ShZ : Nat → Int32) (SuA : Nat → Nat → Int32) (SuJ : Nat → Nat → Int64) (A9 : Nat → Nat → Int32) (Z9 : Nat → Int32), Rel R Z ScR SeR SeA LeR LeZ BrA ShR ShZ SuA SuJ A9 Z9 → ∀ (x0 x1 : Int32), ∃ (q : Int32 × (Nat → Int32) × (Nat → Int32) × (Nat → Int32) × hm_SR × hm_SR × hm_SR × hm_SR × hm_SR × Int32 × Int32 × Int32 × Int32 × hm_SR × hm_SR × hm_SR × hm_SR × hm_SR × hm_SR × Int32 × Int32 × Int32) (q9 : Int32 × (Nat → Int32)), f_X7_leftOf (Z 0) (ScR 0) (ScR 1) (ScR 7) (SeA 0) (LeR 0) (LeR 1) (LeR 2) (LeR 3) (LeR 4) (LeZ 0) (LeZ 1) (LeZ 2) (LeZ 3) (BrA 0) (BrA 1) (BrA 2) (ShR 0) (ShR 1) (ShR 2) (ShR 3) (ShR 4) (ShR 5) (ShZ 0) (ShZ 1) x0 x1 = some q ∧ f_X8_leftOf (A9 1) (A9 2) (A9 4) (A9 5) (A9 6) (A9 7) (A9 14) (Z9 1) (Z9 3) x0 x1 = some q9 ∧ q.1 = q9.1 ∧ Rel R (hm_up Z 0 q.2.2.2.2.2.2.2.2.2.2.2.2.2.2.2.2.2.2.2.2.2) ScR SeR SeA (hm_up (hm_up (hm_up (hm_up (hm_up LeR 0 q.2.2.2.2.1) 1 q.2.2.2.2.2.1) 2 q.2.2.2.2.2.2.1) 3 q.2.2.2.2.2.2.2.1) 4 q.2.2.2.2.2.2.2.2.1) (hm_up (hm_up (hm_up (hm_up LeZ 0 q.2.2.2.2.2.2.2.2.2.1) 1 q.2.2.2.2.2.2.2.2.2.2.1) 2 q.2.2.2.2.2.2.2.2.2.2.2.1) 3 q.2.2.2.2.2.2.2.2.2.2.2.2.1) (hm_up (hm_up (hm_up BrA 0 q.2.1) 1 q.2.2.1) 2 q.2.2.2.1) (hm_up (hm_up (hm_up (hm_up (hm_up (hm_up ShR 0 q.2.2.2.2.2.2.2.2.2.2.2.2.2.1) 1 q.2.2.2.2.2.2.2.2.2.2.2.2.2.2.1) 2 q.2.2.2.2.2.2.2.2.2.2.2.2.2.2.2.1) 3 q.2.2.2.2.2.2.2.2.2.2.2.2.2.2.2.2.1) 4 q.2.2.2.2.2.2.2.2.2.2.2.2.2.2.2.2.2.1) 5 q.2.2.2.2.2.2.2.2.2.2.2.2.2.2.2.2.2.2.1) (hm_up (hm_up ShZ 0 q.2.2.2.2.2.2.2.2.2.2.2.2.2.2.2.2.2.2.2.1) 1 q.2.2.2.2.2.2.2.2.2.2.2.2.2.2.2.2.2.2.2.2.1) SuA SuJ (hm_up A9 14 q9.2) Z9
def hm_St_puts (Rel : hm_RT) : Prop := ∀ (R : Nat → hm_SR) (Z : Nat → Int32) (ScR : Nat → hm_SR) (SeR : Nat → hm_SR) (SeA : Nat → Nat → Int32) (LeR : Nat → hm_SR) (LeZ : Nat → Int32) (BrA : Nat → Nat → Int32) (ShR : Nat → hm_SR) (ShZ : Nat → Int32) (SuA : Nat → Nat → Int32) (SuJ : Nat → Nat → Int64) (A9 : Nat → Nat → Int32) (Z9 : Nat → Int32), Rel R Z ScR SeR SeA LeR LeZ BrA ShR ShZ SuA SuJ A9 Z9 → ∀ (x0 : Int32), ∃ (q : Int32 × hm_SR) (q9 : Int32 × (Nat → Int32) × Int32), f_X7_puts (R 1) (ScR 7) x0 = some q ∧ f_X8_puts (A9 11) (Z9 3) (Z9 5) x0 = some q9 ∧ q.1 = q9.1 ∧ Rel (hm_up R 1 q.2) Z ScR SeR SeA LeR LeZ BrA ShR ShZ SuA SuJ (hm_up A9 11 q9.2.1) (hm_up Z9 5 q9.2.2)
def hm_St_takes (Rel : hm_RT) : Prop := ∀ (R : Nat → hm_SR) (Z : Nat → Int32) (ScR : Nat → hm_SR) (SeR : Nat → hm_SR) (SeA : Nat → Nat → Int32) (LeR : Nat → hm_SR) (LeZ : Nat → Int32) (BrA : Nat → Nat → Int32) (ShR : Nat → hm_SR) (ShZ : Nat → Int32) (SuA : Nat → Nat → Int32) (SuJ : Nat → Nat → Int64) (A9 : Nat → Nat → Int32) (Z9 : Nat → Int32), Rel R Z ScR SeR SeA LeR LeZ BrA ShR ShZ SuA SuJ A9 Z9 → ∀ (_ : Unit), ∃ (q : Int32 × hm_SR) (q9 : Int32 × Int32), f_X7_takes (R 1) = some q ∧ f_X8_takes (A9 11) (Z9 5) = some q9 ∧ q.1 = q9.1 ∧ Rel (hm_up R 1 q.2) Z ScR SeR SeA LeR LeZ BrA ShR ShZ SuA SuJ A9 (hm_up Z9 5 q9.2)
def hm_St_judged (Rel : hm_RT) : Prop := ∀ (R : Nat → hm_SR) (Z : Nat → Int32) (ScR : Nat → hm_SR) (SeR : Nat → hm_SR) (SeA : Nat → Nat → Int32) (LeR : Nat → hm_SR) (LeZ : Nat → Int32) (BrA : Nat → Nat → Int32) (ShR : Nat → hm_SR) (ShZ : Nat → Int32) (SuA : Nat → Nat → Int32) (SuJ : Nat → Nat → Int64) (A9 : Nat → Nat → Int32) (Z9 : Nat → Int32), Rel R Z ScR SeR SeA LeR LeZ BrA ShR ShZ SuA SuJ A9 Z9 → ∀ (x0 : Int32), ∃ (q : Int32 × (Nat → Int32) × (Nat → Int32) × (Nat → Int32) × hm_SR × hm_SR × hm_SR × hm_SR × hm_SR × Int32 × Int32 × Int32 × Int32 × hm_SR × hm_SR × hm_SR × hm_SR × hm_SR × hm_SR × Int32 × Int32 × Int32) (q9 : Int32 × (Nat → Int32) × (Nat → Int32) × (Nat → Int32) × (Nat → Int32) × (Nat → Int32) × Int32), f_X7_judged (R 1) (Z 0) (ScR 0) (ScR 1) (ScR 7) (SeA 0) (LeR 0) (LeR 1) (LeR 2) (LeR 3) (LeR 4) (LeZ 0) (LeZ 1) (LeZ 2) (LeZ 3) (BrA 0) (BrA 1) (BrA 2) (ShR 0) (ShR 1) (ShR 2) (ShR 3) (ShR 4) (ShR 5) (ShZ 0) (ShZ 1) x0 = some q ∧ f_X8_judged (A9 1) (A9 2) (A9 4) (A9 5) (A9 6) (A9 7) (A9 11) (A9 14) (A9 15) (A9 16) (A9 17) (A9 18) (Z9 1) (Z9 3) (Z9 5) (Z9 7) x0 = some q9 ∧ q.1 = q9.1 ∧ Rel R (hm_up Z 0 q.2.2.2.2.2.2.2.2.2.2.2.2.2.2.2.2.2.2.2.2.2) ScR SeR SeA (hm_up (hm_up (hm_up (hm_up (hm_up LeR 0 q.2.2.2.2.1) 1 q.2.2.2.2.2.1) 2 q.2.2.2.2.2.2.1) 3 q.2.2.2.2.2.2.2.1) 4 q.2.2.2.2.2.2.2.2.1) (hm_up (hm_up (hm_up (hm_up LeZ 0 q.2.2.2.2.2.2.2.2.2.1) 1 q.2.2.2.2.2.2.2.2.2.2.1) 2 q.2.2.2.2.2.2.2.2.2.2.2.1) 3 q.2.2.2.2.2.2.2.2.2.2.2.2.1) (hm_up (hm_up (hm_up BrA 0 q.2.1) 1 q.2.2.1) 2 q.2.2.2.1) (hm_up (hm_up (hm_up (hm_up (hm_up (hm_up ShR 0 q.2.2.2.2.2.2.2.2.2.2.2.2.2.1) 1 q.2.2.2.2.2.2.2.2.2.2.2.2.2.2.1) 2 q.2.2.2.2.2.2.2.2.2.2.2.2.2.2.2.1) 3 q.2.2.2.2.2.2.2.2.2.2.2.2.2.2.2.2.1) 4 q.2.2.2.2.2.2.2.2.2.2.2.2.2.2.2.2.2.1) 5 q.2.2.2.2.2.2.2.2.2.2.2.2.2.2.2.2.2.2.1) (hm_up (hm_up ShZ 0 q.2.2.2.2.2.2.2.2.2.2.2.2.2.2.2.2.2.2.2.1) 1 q.2.2.2.2.2.2.2.2.2.2.2.2.2.2.2.2.2.2.2.2.1) SuA SuJ (hm_up (hm_up (hm_up (hm_up (hm_up A9 14 q9.2.1) 15 q9.2.2.1) 16 q9.2.2.2.1) 17 q9.2.2.2.2.1) 18 q9.2.2.2.2.2.1) (hm_up Z9 7 q9.2.2.2.2.2.2)
def hm_St_alike (Rel : hm_RT) : Prop := ∀ (R : Nat → hm_SR) (Z : Nat → Int32) (ScR : Nat → hm_SR) (SeR : Nat → hm_SR) (SeA : Nat → Nat → Int32) (LeR : Nat → hm_SR) (LeZ : Nat → Int32) (BrA : Nat → Nat → Int32) (ShR : Nat → hm_SR) (ShZ : Nat → Int32) (SuA : Nat → Nat → Int32) (SuJ : Nat → Nat → Int64) (A9 : Nat → Nat → Int32) (Z9 : Nat → Int32), Rel R Z ScR SeR SeA LeR LeZ BrA ShR ShZ SuA SuJ A9 Z9 → ∀ (x0 : Int32), ∃ (q : Int32 × (Nat → Int32) × (Nat → Int32) × (Nat → Int32) × hm_SR × hm_SR × hm_SR × hm_SR × hm_SR × Int32 × Int32 × Int32 × Int32 × hm_SR × hm_SR × hm_SR × hm_SR × hm_SR × hm_SR × Int32 × Int32 × (Nat → Int32) × (Nat → Int32) × (Nat → Int64) × Int32 × Int32) (q9 : Int32 × (Nat → Int32) × (Nat → Int32) × (Nat → Int32) × (Nat → Int32) × (Nat → Int32) × (Nat → Int32) × Int32 × Int32 × Int32 × Int32), f_X7_alike (Z 0) (Z 1) (ScR 0) (ScR 1) (SeA 0) (LeR 0) (LeR 1) (LeR 2) (LeR 3) (LeR 4) (LeZ 0) (LeZ 1) (LeZ 2) (LeZ 3) (BrA 0) (BrA 1) (BrA 2) (ShR 0) (ShR 1) (ShR 2) (ShR 3) (ShR 4) (ShR 5) (ShZ 0) (ShZ 1) (SuA 0) (SuA 1) (SuJ 0) x0 = some q ∧ f_X8_alike (A9 1) (A9 2) (A9 4) (A9 5) (A9 6) (A9 7) (A9 14) (A9 15) (A9 16) (A9 17) (A9 18) (A9 24) (Z9 1) (Z9 3) (Z9 7) (Z9 9) (Z9 10) (Z9 11) x0 = some q9 ∧ q.1 = q9.1 ∧ Rel R (hm_up (hm_up Z 0 q.2.2.2.2.2.2.2.2.2.2.2.2.2.2.2.2.2.2.2.2.2.2.2.2.1) 1 q.2.2.2.2.2.2.2.2.2.2.2.2.2.2.2.2.2.2.2.2.2.2.2.2.2) ScR SeR SeA (hm_up (hm_up (hm_up (hm_up (hm_up LeR 0 q.2.2.2.2.1) 1 q.2.2.2.2.2.1) 2 q.2.2.2.2.2.2.1) 3 q.2.2.2.2.2.2.2.1) 4 q.2.2.2.2.2.2.2.2.1) (hm_up (hm_up (hm_up (hm_up LeZ 0 q.2.2.2.2.2.2.2.2.2.1) 1 q.2.2.2.2.2.2.2.2.2.2.1) 2 q.2.2.2.2.2.2.2.2.2.2.2.1) 3 q.2.2.2.2.2.2.2.2.2.2.2.2.1) (hm_up (hm_up (hm_up BrA 0 q.2.1) 1 q.2.2.1) 2 q.2.2.2.1) (hm_up (hm_up (hm_up (hm_up (hm_up (hm_up ShR 0 q.2.2.2.2.2.2.2.2.2.2.2.2.2.1) 1 q.2.2.2.2.2.2.2.2.2.2.2.2.2.2.1) 2 q.2.2.2.2.2.2.2.2.2.2.2.2.2.2.2.1) 3 q.2.2.2.2.2.2.2.2.2.2.2.2.2.2.2.2.1) 4 q.2.2.2.2.2.2.2.2.2.2.2.2.2.2.2.2.2.1) 5 q.2.2.2.2.2.2.2.2.2.2.2.2.2.2.2.2.2.2.1) (hm_up (hm_up ShZ 0 q.2.2.2.2.2.2.2.2.2.2.2.2.2.2.2.2.2.2.2.1) 1 q.2.2.2.2.2.2.2.2.2.2.2.2.2.2.2.2.2.2.2.2.1) (hm_up (hm_up SuA 0 q.2.2.2.2.2.2.2.2.2.2.2.2.2.2.2.2.2.2.2.2.2.1) 1 q.2.2.2.2.2.2.2.2.2.2.2.2.2.2.2.2.2.2.2.2.2.2.1) (hm_up SuJ 0 q.2.2.2.2.2.2.2.2.2.2.2.2.2.2.2.2.2.2.2.2.2.2.2.1) (hm_up (hm_up (hm_up (hm_up (hm_up (hm_up A9 14 q9.2.1) 15 q9.2.2.1) 16 q9.2.2.2.1) 17 q9.2.2.2.2.1) 18 q9.2.2.2.2.2.1) 24 q9.2.2.2.2.2.2.1) (hm_up (hm_up (hm_up (hm_up Z9 7 q9.2.2.2.2.2.2.2.2.2.1) 9 q9.2.2.2.2.2.2.2.2.2.2) 10 q9.2.2.2.2.2.2.2.1) 11 q9.2.2.2.2.2.2.2.2.1)
def hm_St_sees (Rel : hm_RT) : Prop := ∀ (R : Nat → hm_SR) (Z : Nat → Int32) (ScR : Nat → hm_SR) (SeR : Nat → hm_SR) (SeA : Nat → Nat → Int32) (LeR : Nat → hm_SR) (LeZ : Nat → Int32) (BrA : Nat → Nat → Int32) (ShR : Nat → hm_SR) (ShZ : Nat → Int32) (SuA : Nat → Nat → Int32) (SuJ : Nat → Nat → Int64) (A9 : Nat → Nat → Int32) (Z9 : Nat → Int32), Rel R Z ScR SeR SeA LeR LeZ BrA ShR ShZ SuA SuJ A9 Z9 → ∀ (x0 x1 : Int32), ∃ (q : Int32 × hm_SR × hm_SR) (q9 : Int32 × (Nat → Int32) × (Nat → Int32) × Int32), f_X7_sees (R 2) (R 3) (ScR 1) x0 x1 = some q ∧ f_X8_sees (A9 12) (A9 13) (Z9 2) (Z9 6) x0 x1 = some q9 ∧ q.1 = q9.1 ∧ Rel (hm_up (hm_up R 2 q.2.1) 3 q.2.2) Z ScR SeR SeA LeR LeZ BrA ShR ShZ SuA SuJ (hm_up (hm_up A9 12 q9.2.1) 13 q9.2.2.1) (hm_up Z9 6 q9.2.2.2)
def hm_St_forget (Rel : hm_RT) : Prop := ∀ (R : Nat → hm_SR) (Z : Nat → Int32) (ScR : Nat → hm_SR) (SeR : Nat → hm_SR) (SeA : Nat → Nat → Int32) (LeR : Nat → hm_SR) (LeZ : Nat → Int32) (BrA : Nat → Nat → Int32) (ShR : Nat → hm_SR) (ShZ : Nat → Int32) (SuA : Nat → Nat → Int32) (SuJ : Nat → Nat → Int64) (A9 : Nat → Nat → Int32) (Z9 : Nat → Int32), Rel R Z ScR SeR SeA LeR LeZ BrA ShR ShZ SuA SuJ A9 Z9 → ∀ (_ : Unit), ∃ (q : Int32 × hm_SR × hm_SR) (q9 : Int32 × Int32), f_X7_forget (R 2) (R 3) = some q ∧ f_X8_forget (Z9 6) = some q9 ∧ q.1 = q9.1 ∧ Rel (hm_up (hm_up R 2 q.2.1) 3 q.2.2) Z ScR SeR SeA LeR LeZ BrA ShR ShZ SuA SuJ A9 (hm_up Z9 6 q9.2)
def hm_St_unseen (Rel : hm_RT) : Prop := ∀ (R : Nat → hm_SR) (Z : Nat → Int32) (ScR : Nat → hm_SR) (SeR : Nat → hm_SR) (SeA : Nat → Nat → Int32) (LeR : Nat → hm_SR) (LeZ : Nat → Int32) (BrA : Nat → Nat → Int32) (ShR : Nat → hm_SR) (ShZ : Nat → Int32) (SuA : Nat → Nat → Int32) (SuJ : Nat → Nat → Int64) (A9 : Nat → Nat → Int32) (Z9 : Nat → Int32), Rel R Z ScR SeR SeA LeR LeZ BrA ShR ShZ SuA SuJ A9 Z9 → ∀ (x0 : Int32), ∃ (q : Int32 × (Nat → Int32) × (Nat → Int32) × (Nat → Int32) × hm_SR × hm_SR × hm_SR × hm_SR × hm_SR × Int32 × Int32 × Int32 × Int32 × hm_SR × hm_SR × hm_SR × hm_SR × hm_SR × hm_SR × Int32 × Int32 × (Nat → Int32) × (Nat → Int32) × (Nat → Int64) × Int32 × Int32) (q9 : Int32 × (Nat → Int32) × (Nat → Int32) × (Nat → Int32) × (Nat → Int32) × (Nat → Int32) × Int32 × Int32 × Int32 × Int32), f_X7_unseen (R 2) (R 3) (Z 0) (Z 1) (ScR 0) (ScR 1) (ScR 4) (SeA 0) (LeR 0) (LeR 1) (LeR 2) (LeR 3) (LeR 4) (LeZ 0) (LeZ 1) (LeZ 2) (LeZ 3) (BrA 0) (BrA 1) (BrA 2) (ShR 0) (ShR 1) (ShR 2) (ShR 3) (ShR 4) (ShR 5) (ShZ 0) (ShZ 1) (SuA 0) (SuA 1) (SuJ 0) x0 = some q ∧ f_X8_unseen (A9 1) (A9 2) (A9 4) (A9 5) (A9 6) (A9 7) (A9 12) (A9 13) (A9 14) (A9 15) (A9 16) (A9 17) (A9 18) (Z9 1) (Z9 3) (Z9 6) (Z9 7) (Z9 9) (Z9 10) (Z9 11) x0 = some q9 ∧ q.1 = q9.1 ∧ Rel R (hm_up (hm_up Z 0 q.2.2.2.2.2.2.2.2.2.2.2.2.2.2.2.2.2.2.2.2.2.2.2.2.1) 1 q.2.2.2.2.2.2.2.2.2.2.2.2.2.2.2.2.2.2.2.2.2.2.2.2.2) ScR SeR SeA (hm_up (hm_up (hm_up (hm_up (hm_up LeR 0 q.2.2.2.2.1) 1 q.2.2.2.2.2.1) 2 q.2.2.2.2.2.2.1) 3 q.2.2.2.2.2.2.2.1) 4 q.2.2.2.2.2.2.2.2.1) (hm_up (hm_up (hm_up (hm_up LeZ 0 q.2.2.2.2.2.2.2.2.2.1) 1 q.2.2.2.2.2.2.2.2.2.2.1) 2 q.2.2.2.2.2.2.2.2.2.2.2.1) 3 q.2.2.2.2.2.2.2.2.2.2.2.2.1) (hm_up (hm_up (hm_up BrA 0 q.2.1) 1 q.2.2.1) 2 q.2.2.2.1) (hm_up (hm_up (hm_up (hm_up (hm_up (hm_up ShR 0 q.2.2.2.2.2.2.2.2.2.2.2.2.2.1) 1 q.2.2.2.2.2.2.2.2.2.2.2.2.2.2.1) 2 q.2.2.2.2.2.2.2.2.2.2.2.2.2.2.2.1) 3 q.2.2.2.2.2.2.2.2.2.2.2.2.2.2.2.2.1) 4 q.2.2.2.2.2.2.2.2.2.2.2.2.2.2.2.2.2.1) 5 q.2.2.2.2.2.2.2.2.2.2.2.2.2.2.2.2.2.2.1) (hm_up (hm_up ShZ 0 q.2.2.2.2.2.2.2.2.2.2.2.2.2.2.2.2.2.2.2.1) 1 q.2.2.2.2.2.2.2.2.2.2.2.2.2.2.2.2.2.2.2.2.1) (hm_up (hm_up SuA 0 q.2.2.2.2.2.2.2.2.2.2.2.2.2.2.2.2.2.2.2.2.2.1) 1 q.2.2.2.2.2.2.2.2.2.2.2.2.2.2.2.2.2.2.2.2.2.2.1) (hm_up SuJ 0 q.2.2.2.2.2.2.2.2.2.2.2.2.2.2.2.2.2.2.2.2.2.2.2.1) (hm_up (hm_up (hm_up (hm_up (hm_up A9 14 q9.2.1) 15 q9.2.2.1) 16 q9.2.2.2.1) 17 q9.2.2.2.2.1) 18 q9.2.2.2.2.2.1) (hm_up (hm_up (hm_up (hm_up Z9 7 q9.2.2.2.2.2.2.2.2.1) 9 q9.2.2.2.2.2.2.2.2.2) 10 q9.2.2.2.2.2.2.1) 11 q9.2.2.2.2.2.2.2.1)
def hm_St_keep (Rel : hm_RT) : Prop := ∀ (R : Nat → hm_SR) (Z : Nat → Int32) (ScR : Nat → hm_SR) (SeR : Nat → hm_SR) (SeA : Nat → Nat → Int32) (LeR : Nat → hm_SR) (LeZ : Nat → Int32) (BrA : Nat → Nat → Int32) (ShR : Nat → hm_SR) (ShZ : Nat → Int32) (SuA : Nat → Nat → Int32) (SuJ : Nat → Nat → Int64) (A9 : Nat → Nat → Int32) (Z9 : Nat → Int32), Rel R Z ScR SeR SeA LeR LeZ BrA ShR ShZ SuA SuJ A9 Z9 → ∀ (x0 : Int32), ∃ (q : Int32 × (Nat → Int32) × (Nat → Int32)) (q9 : Int32 × (Nat → Int32) × (Nat → Int32)), f_X7_keep (SeA 0) (SeA 1) (SeA 2) x0 = some q ∧ f_X8_keep (A9 7) (A9 9) (A9 10) x0 = some q9 ∧ q.1 = q9.1 ∧ Rel R Z ScR SeR (hm_up (hm_up SeA 1 q.2.1) 2 q.2.2) LeR LeZ BrA ShR ShZ SuA SuJ (hm_up (hm_up A9 9 q9.2.2) 10 q9.2.1) Z9
def hm_St_back (Rel : hm_RT) : Prop := ∀ (R : Nat → hm_SR) (Z : Nat → Int32) (ScR : Nat → hm_SR) (SeR : Nat → hm_SR) (SeA : Nat → Nat → Int32) (LeR : Nat → hm_SR) (LeZ : Nat → Int32) (BrA : Nat → Nat → Int32) (ShR : Nat → hm_SR) (ShZ : Nat → Int32) (SuA : Nat → Nat → Int32) (SuJ : Nat → Nat → Int64) (A9 : Nat → Nat → Int32) (Z9 : Nat → Int32), Rel R Z ScR SeR SeA LeR LeZ BrA ShR ShZ SuA SuJ A9 Z9 → ∀ (x0 : Int32), ∃ (q : Int32 × (Nat → Int32) × hm_SR × hm_SR × Int32 × Int32) (q9 : Int32 × (Nat → Int32) × Int32), f_X7_back (Z 0) (Z 1) (SeR 0) (SeR 1) (SeA 0) (SeA 1) (SeA 2) x0 = some q ∧ f_X8_back (A9 7) (A9 9) (A9 10) (Z9 4) x0 = some q9 ∧ q.1 = q9.1 ∧ Rel R (hm_up (hm_up Z 0 q.2.2.2.2.1) 1 q.2.2.2.2.2) ScR (hm_up (hm_up SeR 0 q.2.2.1) 1 q.2.2.2.1) (hm_up SeA 0 q.2.1) LeR LeZ BrA ShR ShZ SuA SuJ (hm_up A9 7 q9.2.1) (hm_up Z9 4 q9.2.2)
def hm_St_count (Rel : hm_RT) : Prop := ∀ (R : Nat → hm_SR) (Z : Nat → Int32) (ScR : Nat → hm_SR) (SeR : Nat → hm_SR) (SeA : Nat → Nat → Int32) (LeR : Nat → hm_SR) (LeZ : Nat → Int32) (BrA : Nat → Nat → Int32) (ShR : Nat → hm_SR) (ShZ : Nat → Int32) (SuA : Nat → Nat → Int32) (SuJ : Nat → Nat → Int64) (A9 : Nat → Nat → Int32) (Z9 : Nat → Int32), Rel R Z ScR SeR SeA LeR LeZ BrA ShR ShZ SuA SuJ A9 Z9 → ∀ (x0 : Int32), ∃ (q : Int32) (q9 : Int32), f_X7_count (R 0) (R 1) (R 2) (ScR 1) (ScR 6) (ScR 7) (SeR 0) (SeA 0) x0 = some q ∧ f_X8_count (A9 1) (A9 2) (A9 3) (A9 7) (Z9 0) (Z9 2) (Z9 3) (Z9 4) (Z9 5) (Z9 6) x0 = some q9 ∧ q = q9 ∧ Rel R Z ScR SeR SeA LeR LeZ BrA ShR ShZ SuA SuJ A9 Z9
def hm_Steps (Rel : hm_RT) : Prop := hm_St_type Rel ∧ hm_St_clear Rel ∧ hm_St_words Rel ∧ hm_St_word Rel ∧ hm_St_different Rel ∧ hm_St_place Rel ∧ hm_St_wide Rel ∧ hm_St_hangs Rel ∧ hm_St_sets Rel ∧ hm_St_undo Rel ∧ hm_St_page Rel ∧ hm_St_line Rel ∧ hm_St_blank Rel ∧ hm_St_leftOf Rel ∧ hm_St_puts Rel ∧ hm_St_takes Rel ∧ hm_St_judged Rel ∧ hm_St_alike Rel ∧ hm_St_sees Rel ∧ hm_St_forget Rel ∧ hm_St_unseen Rel ∧ hm_St_keep Rel ∧ hm_St_back Rel ∧ hm_St_count Rel
theorem hm_lawL {u v : va_W} : (u ++ v).Perm ([u].flatten ++ v) := by rw [List.flatten_singleton]
theorem hm_lawR {u v : va_W} : (u ++ v).Perm (v ++ u) := List.perm_append_comm
theorem hm_toI {n : Nat} (h : n < 2 ^ 31) : (nI n).toInt = (n : Int) := nI_toInt h
theorem hm_lawsub {L : Nat} (hL : L ≤ 2048) : (nI L - 4).toInt = (L : Int) - 4 := by
  have h := pk_sub_toInt (a := L) (b := 4) (by omega) (by omega)
  exact h
theorem hm_lawend {L i : Nat} (hL : L ≤ 2048) (h : L + 1 ≤ i) (h2 : nI i ≤ nI L - 4) (hi : i ≤ L + 3 := by omega) : False := by
  have h3 := Int32.le_iff_toInt_le.mp h2
  rw [hm_lawsub hL, nI_toInt (by omega)] at h3
  omega
theorem hm_lawin {L i : Nat} (hL : L ≤ 2048) (hi : i ≤ L + 3) (h2 : nI i ≤ nI L - 4) : i + 4 ≤ L := by
  have h3 := Int32.le_iff_toInt_le.mp h2
  rw [hm_lawsub hL, nI_toInt (by omega)] at h3
  omega
set_option maxHeartbeats 8000000 in
set_option maxRecDepth 100000 in
theorem law_loop {Rel : hm_RT} (ST : hm_Steps Rel) {p : Program} {l : Launch} {e : Env} {s : State} {m : MethodId} {below : List Frame} {meth : Method} {c : Code} {g : hm_G} {a : Nat → Nat → Nat} {b9 : Nat → Nat} {b L : Nat} {xs : Nat → Int32} (hL : L ≤ 2048) (C0 : lw_At p s m meth c b L xs) :
    ∀ (n i : Nat), L + 1 ≤ i + n → i ≤ L + 3 → ∀ (R : Nat → hm_SR) (Z : Nat → Int32) (ScR : Nat → hm_SR) (SeR : Nat → hm_SR) (SeA : Nat → Nat → Int32) (LeR : Nat → hm_SR) (LeZ : Nat → Int32) (BrA : Nat → Nat → Int32) (ShR : Nat → hm_SR) (ShZ : Nat → Int32) (SuA : Nat → Nat → Int32) (SuJ : Nat → Nat → Int64) (A9 : Nat → Nat → Int32) (Z9 : Nat → Int32), Rel R Z ScR SeR SeA LeR LeZ BrA ShR ShZ SuA SuJ A9 Z9 → ∀ (H : Heap) (locs : List Loc), hm_X g (fun q : Nat => s.heap.size ≤ q) s H locs (hm_wHM g a R Z ScR SeR SeA LeR LeZ BrA ShR ShZ SuA SuJ ++ hm_wMM g b9 A9 Z9) → ∀ ls : Array Slot, lv_has ls 4 [(0, .ref b), (1, .ref (a 0 0)), (2, .ref (b9 0)), (3, .int (nI i))] → W p l e room_1 s m #[Value.ref b] below meth c H locs 96 5586 (lw_Z below #[Value.ref b] s) (F0 m 18 ls []) := by
  obtain ⟨hx, hb, hr, hml, hown, hts, hX, hbl, hlocks, hgv⟩ := C0
  have S : CallFix p m c cL_law 4 s #[Value.ref b] hm_W RL := ⟨hx, hb, hml, hown, fun w h => hts w (hm_Wtbl w h)⟩
  have hbA : ¬ (fun q : Nat => s.heap.size ≤ q) b := Nat.not_le.mpr hbl
  obtain ⟨st0, st1, st2, st3, st4, st5, st6, st7, st8, st9, st10, st11, st12, st13, st14, st15, st16, st17, st18, st19, st20, st21, st22, st23⟩ := ST
  intro n
  induction n with
  | zero =>
    intro i h1 h2 R Z ScR SeR SeA LeR LeZ BrA ShR ShZ SuA SuJ A9 Z9 hRel H locs X ls hl
    have hhead : ¬ nI i ≤ nI L - 4 := by
      intro h
      exact hm_lawend hL (by omega) h
    refine lv_iload_n hx hb dL_law_18 rfl (lv_at hl 3 rfl) ?_
    refine lv_aload_n hx hb dL_law_19 rfl (lv_at hl 0 rfl) ?_
    refine va_slen hx hb hX hbl hbA X.2.2.2.1 dL_law_20 ?_
    refine lv_iconst (v := 4) hx hb dL_law_21 (by decide) ?_
    refine lv_isub hx hb dL_law_22 ?_
    refine lv_icmp_gt (tgt := 762) hx hb dL_law_23 (by decide) (fun c23 => ?_) (fun c23 => absurd (Int32.not_lt.mp c23) hhead)
    refine lv_iconst (v := 1) hx hb dL_law_762 (by decide) ?_
    refine va_forget (fun q hq => X.2.2.2.1.2.2 q hq) ?_
    refine W.widen (k := 600000) (n := 7302250) (Nat.le_of_ble_eq_true rfl) (Nat.le_of_ble_eq_true rfl) ?_
    exact lw_ret hx hb hr hlocks dL_law_763
  | succ n ih =>
    intro i h1 h2 R Z ScR SeR SeA LeR LeZ BrA ShR ShZ SuA SuJ A9 Z9 hRel H locs X ls hl
    refine lv_iload_n hx hb dL_law_18 rfl (lv_at hl 3 rfl) ?_
    refine lv_aload_n hx hb dL_law_19 rfl (lv_at hl 0 rfl) ?_
    refine va_slen hx hb hX hbl hbA X.2.2.2.1 dL_law_20 ?_
    refine lv_iconst (v := 4) hx hb dL_law_21 (by decide) ?_
    refine lv_isub hx hb dL_law_22 ?_
    refine lv_icmp_gt (tgt := 762) hx hb dL_law_23 (by decide) (fun c23 => ?_) (fun c23 => ?_)
    · refine lv_iconst (v := 1) hx hb dL_law_762 (by decide) ?_
      refine va_forget (fun q hq => X.2.2.2.1.2.2 q hq) ?_
      refine W.widen (k := 600000) (n := 7302250) (Nat.le_of_ble_eq_true rfl) (Nat.le_of_ble_eq_true rfl) ?_
      exact lw_ret hx hb hr hlocks dL_law_763
    have hlt : i + 4 ≤ L := hm_lawin hL h2 (Int32.not_lt.mp c23)
    have i0 : vp_in (nI i) L := vp_in_nI (by omega) (by omega)
    have i1 : vp_in (nI i + 1) L := by rw [nI_1]; exact vp_in_nI (by omega) (by omega)
    have i2 : vp_in (nI i + 2) L := by rw [show (2 : Int32) = nI 2 from rfl, nI_add]; exact vp_in_nI (by omega) (by omega)
    have i3 : vp_in (nI i + 3) L := by rw [show (3 : Int32) = nI 3 from rfl, nI_add]; exact vp_in_nI (by omega) (by omega)
    refine lv_aload_n hx hb dL_law_26 rfl (lv_at hl 0 rfl) ?_
    refine lv_iload_n hx hb dL_law_27 rfl (lv_at hl 3 rfl) ?_
    refine va_sld hx hb hX hbl hbA X.2.2.2.1 i0 dL_law_28 ?_
    refine lv_bipush (v := 31) hx hb dL_law_29 (by decide) ?_
    refine lv_iand hx hb dL_law_31 ?_
    generalize (xs (nI i).toNatClampNeg &&& 31) = sw
    have hgo : ∀ (R : Nat → hm_SR) (Z : Nat → Int32) (ScR : Nat → hm_SR) (SeR : Nat → hm_SR) (SeA : Nat → Nat → Int32) (LeR : Nat → hm_SR) (LeZ : Nat → Int32) (BrA : Nat → Nat → Int32) (ShR : Nat → hm_SR) (ShZ : Nat → Int32) (SuA : Nat → Nat → Int32) (SuJ : Nat → Nat → Int64) (A9 : Nat → Nat → Int32) (Z9 : Nat → Int32), Rel R Z ScR SeR SeA LeR LeZ BrA ShR ShZ SuA SuJ A9 Z9 → ∀ (H : Heap) (locs : List Loc), hm_X g (fun q : Nat => s.heap.size ≤ q) s H locs (hm_wHM g a R Z ScR SeR SeA LeR LeZ BrA ShR ShZ SuA SuJ ++ hm_wMM g b9 A9 Z9) → ∀ ls : Array Slot, lv_has ls 4 [(0, .ref b), (1, .ref (a 0 0)), (2, .ref (b9 0)), (3, .int (nI i))] → W p l e room_1 s m #[Value.ref b] below meth c H locs 96 5586 (lw_Z below #[Value.ref b] s) (F0 m 756 ls []) := by
      intro R Z ScR SeR SeA LeR LeZ BrA ShR ShZ SuA SuJ A9 Z9 hRel H locs X ls hl
      refine lv_iinc (v := nI (i + 4)) (lv' := [(3, .int (nI (i + 4))), (0, .ref b), (1, .ref (a 0 0)), (2, .ref (b9 0))]) hx hb dL_law_756 hl (k := 3) rfl (by rw [show Int32.ofInt 4 = nI 4 from by decide, nI_add]) (by decide) rfl (fun ls hl => ?_)
      refine lv_goto (tgt := 18) hx hb dL_law_759 (by decide) ?_
      exact ih (i + 4) (by omega) (by omega) _ _ _ _ _ _ _ _ _ _ _ _ _ _ hRel _ _ X _ (lv_sub hl [1, 2, 3, 0] rfl)
    by_cases c32_0 : sw = 0
    · refine hm_tabIn (off := 112) (tgt := 144) (k := 0) hx hb dL_law_32 c32_0 (by decide) (by decide) (by decide) rfl (by decide) ?_
      obtain ⟨q, q9, hq, hq9, eq, hRel⟩ := st0 _ _ _ _ _ _ _ _ _ _ _ _ _ _ hRel (xs (nI i + 1).toNatClampNeg)
      refine lv_aload_n hx hb dL_law_144 rfl (lv_at hl 1 rfl) ?_
      refine lv_aload_n hx hb dL_law_145 rfl (lv_at hl 0 rfl) ?_
      refine lv_iload_n hx hb dL_law_146 rfl (lv_at hl 3 rfl) ?_
      refine lv_iconst (v := 1) hx hb dL_law_147 (by decide) ?_
      refine lv_iadd hx hb dL_law_148 ?_
      refine va_sld hx hb hX hbl hbA X.2.2.2.1 i1 dL_law_149 ?_
      refine hm_vi (As := [.int (xs (nI i + 1).toNatClampNeg)]) S X mw_X7_type hw_2_18 (c_X7_type l g a R Z ScR SeR SeA LeR LeZ BrA ShR ShZ SuA SuJ (xs (nI i + 1).toNatClampNeg) q hq) hm_lawL (ws' := (hm_wHM g a (hm_up R 0 q.2) Z ScR SeR SeA LeR LeZ BrA ShR ShZ SuA SuJ ++ hm_wMM g b9 A9 Z9)) hm_lawL rfl rfl rfl ⟨rfl, rfl, Nat.le_of_ble_eq_true rfl, Nat.le_of_ble_eq_true rfl⟩ rfl hl.1 rfl (Nat.le_of_ble_eq_true rfl) dL_law_150 ⟨Nat.le_of_ble_eq_true rfl, Nat.le_of_ble_eq_true rfl⟩ (fun H locs X => ?_)
      refine lv_aload_n hx hb dL_law_153 rfl (lv_at hl 2 rfl) ?_
      refine lv_aload_n hx hb dL_law_154 rfl (lv_at hl 0 rfl) ?_
      refine lv_iload_n hx hb dL_law_155 rfl (lv_at hl 3 rfl) ?_
      refine lv_iconst (v := 1) hx hb dL_law_156 (by decide) ?_
      refine lv_iadd hx hb dL_law_157 ?_
      refine va_sld hx hb hX hbl hbA X.2.2.2.1 i1 dL_law_158 ?_
      refine hm_vi (As := [.int (xs (nI i + 1).toNatClampNeg)]) S X mw_X8_type hw_4_189 (c_X8_type l g b9 A9 Z9 (xs (nI i + 1).toNatClampNeg) q9 hq9) hm_lawR (ws' := (hm_wHM g a (hm_up R 0 q.2) Z ScR SeR SeA LeR LeZ BrA ShR ShZ SuA SuJ ++ hm_wMM g b9 (hm_up A9 0 q9.2.1) (hm_up Z9 0 q9.2.2))) hm_lawR rfl rfl rfl ⟨rfl, rfl, Nat.le_of_ble_eq_true rfl, Nat.le_of_ble_eq_true rfl⟩ rfl hl.1 rfl (Nat.le_of_ble_eq_true rfl) dL_law_159 ⟨Nat.le_of_ble_eq_true rfl, Nat.le_of_ble_eq_true rfl⟩ (fun H locs X => ?_)
      refine lv_icmp_eq (tgt := 756) hx hb dL_law_162 (by decide) (fun _ => ?_) (fun hne => absurd eq hne)
      exact hgo _ _ _ _ _ _ _ _ _ _ _ _ _ _ hRel _ _ X _ hl
    by_cases c32_1 : sw = 1
    · refine hm_tabIn (off := 135) (tgt := 167) (k := 1) hx hb dL_law_32 c32_1 (by decide) (by decide) (by decide) rfl (by decide) ?_
      obtain ⟨q, q9, hq, hq9, eq, hRel⟩ := st1 _ _ _ _ _ _ _ _ _ _ _ _ _ _ hRel ()
      refine lv_aload_n hx hb dL_law_167 rfl (lv_at hl 1 rfl) ?_
      refine hm_vi (As := []) S X mw_X7_clear hw_2_30 (c_X7_clear l g a R Z ScR SeR SeA LeR LeZ BrA ShR ShZ SuA SuJ  q hq) hm_lawL (ws' := (hm_wHM g a (hm_up R 0 q.2) Z ScR SeR SeA LeR LeZ BrA ShR ShZ SuA SuJ ++ hm_wMM g b9 A9 Z9)) hm_lawL rfl rfl rfl ⟨rfl, rfl, Nat.le_of_ble_eq_true rfl, Nat.le_of_ble_eq_true rfl⟩ rfl hl.1 rfl (Nat.le_of_ble_eq_true rfl) dL_law_168 ⟨Nat.le_of_ble_eq_true rfl, Nat.le_of_ble_eq_true rfl⟩ (fun H locs X => ?_)
      refine lv_aload_n hx hb dL_law_171 rfl (lv_at hl 2 rfl) ?_
      refine hm_vi (As := []) S X mw_X8_clear hw_4_196 (c_X8_clear l g b9 A9 Z9  q9 hq9) hm_lawR (ws' := (hm_wHM g a (hm_up R 0 q.2) Z ScR SeR SeA LeR LeZ BrA ShR ShZ SuA SuJ ++ hm_wMM g b9 A9 (hm_up Z9 0 q9.2))) hm_lawR rfl rfl rfl ⟨rfl, rfl, Nat.le_of_ble_eq_true rfl, Nat.le_of_ble_eq_true rfl⟩ rfl hl.1 rfl (Nat.le_of_ble_eq_true rfl) dL_law_172 ⟨Nat.le_of_ble_eq_true rfl, Nat.le_of_ble_eq_true rfl⟩ (fun H locs X => ?_)
      refine lv_icmp_eq (tgt := 756) hx hb dL_law_175 (by decide) (fun _ => ?_) (fun hne => absurd eq hne)
      exact hgo _ _ _ _ _ _ _ _ _ _ _ _ _ _ hRel _ _ X _ hl
    by_cases c32_2 : sw = 2
    · refine hm_tabIn (off := 148) (tgt := 180) (k := 2) hx hb dL_law_32 c32_2 (by decide) (by decide) (by decide) rfl (by decide) ?_
      obtain ⟨q, q9, hq, hq9, eq, hRel⟩ := st2 _ _ _ _ _ _ _ _ _ _ _ _ _ _ hRel ()
      refine lv_aload_n hx hb dL_law_180 rfl (lv_at hl 1 rfl) ?_
      refine hm_vi (As := []) S X mw_X7_words hw_2_35 (c_X7_words l g a R Z ScR SeR SeA LeR LeZ BrA ShR ShZ SuA SuJ  q hq) hm_lawL (ws' := (hm_wHM g a (hm_up (hm_up (hm_up (hm_up R 0 q.2.1) 1 q.2.2.1) 2 q.2.2.2.1) 3 q.2.2.2.2.1) (hm_up (hm_up Z 0 q.2.2.2.2.2.2.2.2.2.2.2.2.2.2.2.2.2.2.2.1) 1 q.2.2.2.2.2.2.2.2.2.2.2.2.2.2.2.2.2.2.2.2) (hm_up (hm_up (hm_up (hm_up (hm_up (hm_up (hm_up (hm_up (hm_up (hm_up ScR 0 q.2.2.2.2.2.1) 1 q.2.2.2.2.2.2.1) 2 q.2.2.2.2.2.2.2.1) 3 q.2.2.2.2.2.2.2.2.1) 4 q.2.2.2.2.2.2.2.2.2.1) 5 q.2.2.2.2.2.2.2.2.2.2.1) 6 q.2.2.2.2.2.2.2.2.2.2.2.1) 7 q.2.2.2.2.2.2.2.2.2.2.2.2.1) 8 q.2.2.2.2.2.2.2.2.2.2.2.2.2.1) 9 q.2.2.2.2.2.2.2.2.2.2.2.2.2.2.1) (hm_up (hm_up SeR 0 q.2.2.2.2.2.2.2.2.2.2.2.2.2.2.2.2.2.1) 1 q.2.2.2.2.2.2.2.2.2.2.2.2.2.2.2.2.2.2.1) (hm_up (hm_up SeA 0 q.2.2.2.2.2.2.2.2.2.2.2.2.2.2.2.1) 2 q.2.2.2.2.2.2.2.2.2.2.2.2.2.2.2.2.1) LeR LeZ BrA ShR ShZ SuA SuJ ++ hm_wMM g b9 A9 Z9)) hm_lawL rfl rfl rfl ⟨rfl, rfl, Nat.le_of_ble_eq_true rfl, Nat.le_of_ble_eq_true rfl⟩ rfl hl.1 rfl (Nat.le_of_ble_eq_true rfl) dL_law_181 ⟨Nat.le_of_ble_eq_true rfl, Nat.le_of_ble_eq_true rfl⟩ (fun H locs X => ?_)
      refine lv_aload_n hx hb dL_law_184 rfl (lv_at hl 2 rfl) ?_
      refine hm_vi (As := []) S X mw_X8_words hw_4_200 (c_X8_words l g b9 A9 Z9  q9 hq9) hm_lawR (ws' := (hm_wHM g a (hm_up (hm_up (hm_up (hm_up R 0 q.2.1) 1 q.2.2.1) 2 q.2.2.2.1) 3 q.2.2.2.2.1) (hm_up (hm_up Z 0 q.2.2.2.2.2.2.2.2.2.2.2.2.2.2.2.2.2.2.2.1) 1 q.2.2.2.2.2.2.2.2.2.2.2.2.2.2.2.2.2.2.2.2) (hm_up (hm_up (hm_up (hm_up (hm_up (hm_up (hm_up (hm_up (hm_up (hm_up ScR 0 q.2.2.2.2.2.1) 1 q.2.2.2.2.2.2.1) 2 q.2.2.2.2.2.2.2.1) 3 q.2.2.2.2.2.2.2.2.1) 4 q.2.2.2.2.2.2.2.2.2.1) 5 q.2.2.2.2.2.2.2.2.2.2.1) 6 q.2.2.2.2.2.2.2.2.2.2.2.1) 7 q.2.2.2.2.2.2.2.2.2.2.2.2.1) 8 q.2.2.2.2.2.2.2.2.2.2.2.2.2.1) 9 q.2.2.2.2.2.2.2.2.2.2.2.2.2.2.1) (hm_up (hm_up SeR 0 q.2.2.2.2.2.2.2.2.2.2.2.2.2.2.2.2.2.1) 1 q.2.2.2.2.2.2.2.2.2.2.2.2.2.2.2.2.2.2.1) (hm_up (hm_up SeA 0 q.2.2.2.2.2.2.2.2.2.2.2.2.2.2.2.1) 2 q.2.2.2.2.2.2.2.2.2.2.2.2.2.2.2.2.1) LeR LeZ BrA ShR ShZ SuA SuJ ++ hm_wMM g b9 (hm_up (hm_up (hm_up (hm_up (hm_up (hm_up (hm_up (hm_up A9 1 q9.2.1) 2 q9.2.2.1) 3 q9.2.2.2.1) 4 q9.2.2.2.2.1) 5 q9.2.2.2.2.2.1) 6 q9.2.2.2.2.2.2.1) 7 q9.2.2.2.2.2.2.2.1) 9 q9.2.2.2.2.2.2.2.2.1) (hm_up (hm_up (hm_up (hm_up (hm_up (hm_up (hm_up Z9 0 q9.2.2.2.2.2.2.2.2.2.1) 1 q9.2.2.2.2.2.2.2.2.2.2.1) 2 q9.2.2.2.2.2.2.2.2.2.2.2.1) 3 q9.2.2.2.2.2.2.2.2.2.2.2.2.1) 4 q9.2.2.2.2.2.2.2.2.2.2.2.2.2.1) 5 q9.2.2.2.2.2.2.2.2.2.2.2.2.2.2.1) 6 q9.2.2.2.2.2.2.2.2.2.2.2.2.2.2.2))) hm_lawR rfl rfl rfl ⟨rfl, rfl, Nat.le_of_ble_eq_true rfl, Nat.le_of_ble_eq_true rfl⟩ rfl hl.1 rfl (Nat.le_of_ble_eq_true rfl) dL_law_185 ⟨Nat.le_of_ble_eq_true rfl, Nat.le_of_ble_eq_true rfl⟩ (fun H locs X => ?_)
      refine lv_icmp_eq (tgt := 756) hx hb dL_law_188 (by decide) (fun _ => ?_) (fun hne => absurd eq hne)
      exact hgo _ _ _ _ _ _ _ _ _ _ _ _ _ _ hRel _ _ X _ hl
    by_cases c32_3 : sw = 3
    · refine hm_tabIn (off := 161) (tgt := 193) (k := 3) hx hb dL_law_32 c32_3 (by decide) (by decide) (by decide) rfl (by decide) ?_
      obtain ⟨q, q9, hq, hq9, eq, hRel⟩ := st3 _ _ _ _ _ _ _ _ _ _ _ _ _ _ hRel (xs (nI i + 1).toNatClampNeg) (xs (nI i + 2).toNatClampNeg)
      refine lv_aload_n hx hb dL_law_193 rfl (lv_at hl 1 rfl) ?_
      refine lv_aload_n hx hb dL_law_194 rfl (lv_at hl 0 rfl) ?_
      refine lv_iload_n hx hb dL_law_195 rfl (lv_at hl 3 rfl) ?_
      refine lv_iconst (v := 1) hx hb dL_law_196 (by decide) ?_
      refine lv_iadd hx hb dL_law_197 ?_
      refine va_sld hx hb hX hbl hbA X.2.2.2.1 i1 dL_law_198 ?_
      refine lv_aload_n hx hb dL_law_199 rfl (lv_at hl 0 rfl) ?_
      refine lv_iload_n hx hb dL_law_200 rfl (lv_at hl 3 rfl) ?_
      refine lv_iconst (v := 2) hx hb dL_law_201 (by decide) ?_
      refine lv_iadd hx hb dL_law_202 ?_
      refine va_sld hx hb hX hbl hbA X.2.2.2.1 i2 dL_law_203 ?_
      refine hm_vi (As := [.int (xs (nI i + 1).toNatClampNeg), .int (xs (nI i + 2).toNatClampNeg)]) S X mw_X7_word hw_2_102 (c_X7_word l g a R Z ScR SeR SeA LeR LeZ BrA ShR ShZ SuA SuJ (xs (nI i + 1).toNatClampNeg) (xs (nI i + 2).toNatClampNeg) q hq) hm_lawL (ws' := (hm_wHM g a R Z ScR SeR SeA LeR LeZ BrA ShR ShZ SuA SuJ ++ hm_wMM g b9 A9 Z9)) hm_lawL rfl rfl rfl ⟨rfl, rfl, Nat.le_of_ble_eq_true rfl, Nat.le_of_ble_eq_true rfl⟩ rfl hl.1 rfl (Nat.le_of_ble_eq_true rfl) dL_law_204 ⟨Nat.le_of_ble_eq_true rfl, Nat.le_of_ble_eq_true rfl⟩ (fun H locs X => ?_)
      refine lv_aload_n hx hb dL_law_207 rfl (lv_at hl 2 rfl) ?_
      refine lv_aload_n hx hb dL_law_208 rfl (lv_at hl 0 rfl) ?_
      refine lv_iload_n hx hb dL_law_209 rfl (lv_at hl 3 rfl) ?_
      refine lv_iconst (v := 1) hx hb dL_law_210 (by decide) ?_
      refine lv_iadd hx hb dL_law_211 ?_
      refine va_sld hx hb hX hbl hbA X.2.2.2.1 i1 dL_law_212 ?_
      refine lv_aload_n hx hb dL_law_213 rfl (lv_at hl 0 rfl) ?_
      refine lv_iload_n hx hb dL_law_214 rfl (lv_at hl 3 rfl) ?_
      refine lv_iconst (v := 2) hx hb dL_law_215 (by decide) ?_
      refine lv_iadd hx hb dL_law_216 ?_
      refine va_sld hx hb hX hbl hbA X.2.2.2.1 i2 dL_law_217 ?_
      refine hm_vi (As := [.int (xs (nI i + 1).toNatClampNeg), .int (xs (nI i + 2).toNatClampNeg)]) S X mw_X8_word hw_4_222 (c_X8_word l g b9 A9 Z9 (xs (nI i + 1).toNatClampNeg) (xs (nI i + 2).toNatClampNeg) q9 hq9) hm_lawR (ws' := (hm_wHM g a R Z ScR SeR SeA LeR LeZ BrA ShR ShZ SuA SuJ ++ hm_wMM g b9 A9 Z9)) hm_lawR rfl rfl rfl ⟨rfl, rfl, Nat.le_of_ble_eq_true rfl, Nat.le_of_ble_eq_true rfl⟩ rfl hl.1 rfl (Nat.le_of_ble_eq_true rfl) dL_law_218 ⟨Nat.le_of_ble_eq_true rfl, Nat.le_of_ble_eq_true rfl⟩ (fun H locs X => ?_)
      refine lv_icmp_eq (tgt := 756) hx hb dL_law_221 (by decide) (fun _ => ?_) (fun hne => absurd eq hne)
      exact hgo _ _ _ _ _ _ _ _ _ _ _ _ _ _ hRel _ _ X _ hl
    by_cases c32_4 : sw = 4
    · refine hm_tabIn (off := 194) (tgt := 226) (k := 4) hx hb dL_law_32 c32_4 (by decide) (by decide) (by decide) rfl (by decide) ?_
      obtain ⟨q, q9, hq, hq9, eq, hRel⟩ := st4 _ _ _ _ _ _ _ _ _ _ _ _ _ _ hRel (xs (nI i + 1).toNatClampNeg) (xs (nI i + 2).toNatClampNeg)
      refine lv_aload_n hx hb dL_law_226 rfl (lv_at hl 1 rfl) ?_
      refine lv_aload_n hx hb dL_law_227 rfl (lv_at hl 0 rfl) ?_
      refine lv_iload_n hx hb dL_law_228 rfl (lv_at hl 3 rfl) ?_
      refine lv_iconst (v := 1) hx hb dL_law_229 (by decide) ?_
      refine lv_iadd hx hb dL_law_230 ?_
      refine va_sld hx hb hX hbl hbA X.2.2.2.1 i1 dL_law_231 ?_
      refine lv_aload_n hx hb dL_law_232 rfl (lv_at hl 0 rfl) ?_
      refine lv_iload_n hx hb dL_law_233 rfl (lv_at hl 3 rfl) ?_
      refine lv_iconst (v := 2) hx hb dL_law_234 (by decide) ?_
      refine lv_iadd hx hb dL_law_235 ?_
      refine va_sld hx hb hX hbl hbA X.2.2.2.1 i2 dL_law_236 ?_
      refine hm_vi (As := [.int (xs (nI i + 1).toNatClampNeg), .int (xs (nI i + 2).toNatClampNeg)]) S X mw_X7_different hw_2_114 (c_X7_different l g a R Z ScR SeR SeA LeR LeZ BrA ShR ShZ SuA SuJ (xs (nI i + 1).toNatClampNeg) (xs (nI i + 2).toNatClampNeg) q hq) hm_lawL (ws' := (hm_wHM g a R Z ScR SeR SeA LeR LeZ BrA ShR ShZ SuA SuJ ++ hm_wMM g b9 A9 Z9)) hm_lawL rfl rfl rfl ⟨rfl, rfl, Nat.le_of_ble_eq_true rfl, Nat.le_of_ble_eq_true rfl⟩ rfl hl.1 rfl (Nat.le_of_ble_eq_true rfl) dL_law_237 ⟨Nat.le_of_ble_eq_true rfl, Nat.le_of_ble_eq_true rfl⟩ (fun H locs X => ?_)
      refine lv_aload_n hx hb dL_law_240 rfl (lv_at hl 2 rfl) ?_
      refine lv_aload_n hx hb dL_law_241 rfl (lv_at hl 0 rfl) ?_
      refine lv_iload_n hx hb dL_law_242 rfl (lv_at hl 3 rfl) ?_
      refine lv_iconst (v := 1) hx hb dL_law_243 (by decide) ?_
      refine lv_iadd hx hb dL_law_244 ?_
      refine va_sld hx hb hX hbl hbA X.2.2.2.1 i1 dL_law_245 ?_
      refine lv_aload_n hx hb dL_law_246 rfl (lv_at hl 0 rfl) ?_
      refine lv_iload_n hx hb dL_law_247 rfl (lv_at hl 3 rfl) ?_
      refine lv_iconst (v := 2) hx hb dL_law_248 (by decide) ?_
      refine lv_iadd hx hb dL_law_249 ?_
      refine va_sld hx hb hX hbl hbA X.2.2.2.1 i2 dL_law_250 ?_
      refine hm_vi (As := [.int (xs (nI i + 1).toNatClampNeg), .int (xs (nI i + 2).toNatClampNeg)]) S X mw_X8_different hw_4_230 (c_X8_different l g b9 A9 Z9 (xs (nI i + 1).toNatClampNeg) (xs (nI i + 2).toNatClampNeg) q9 hq9) hm_lawR (ws' := (hm_wHM g a R Z ScR SeR SeA LeR LeZ BrA ShR ShZ SuA SuJ ++ hm_wMM g b9 A9 Z9)) hm_lawR rfl rfl rfl ⟨rfl, rfl, Nat.le_of_ble_eq_true rfl, Nat.le_of_ble_eq_true rfl⟩ rfl hl.1 rfl (Nat.le_of_ble_eq_true rfl) dL_law_251 ⟨Nat.le_of_ble_eq_true rfl, Nat.le_of_ble_eq_true rfl⟩ (fun H locs X => ?_)
      refine lv_icmp_eq (tgt := 756) hx hb dL_law_254 (by decide) (fun _ => ?_) (fun hne => absurd eq hne)
      exact hgo _ _ _ _ _ _ _ _ _ _ _ _ _ _ hRel _ _ X _ hl
    by_cases c32_5 : sw = 5
    · refine hm_tabIn (off := 227) (tgt := 259) (k := 5) hx hb dL_law_32 c32_5 (by decide) (by decide) (by decide) rfl (by decide) ?_
      obtain ⟨q, q9, hq, hq9, eq, hRel⟩ := st5 _ _ _ _ _ _ _ _ _ _ _ _ _ _ hRel (xs (nI i + 1).toNatClampNeg) (xs (nI i + 2).toNatClampNeg)
      refine lv_aload_n hx hb dL_law_259 rfl (lv_at hl 1 rfl) ?_
      refine lv_aload_n hx hb dL_law_260 rfl (lv_at hl 0 rfl) ?_
      refine lv_iload_n hx hb dL_law_261 rfl (lv_at hl 3 rfl) ?_
      refine lv_iconst (v := 1) hx hb dL_law_262 (by decide) ?_
      refine lv_iadd hx hb dL_law_263 ?_
      refine va_sld hx hb hX hbl hbA X.2.2.2.1 i1 dL_law_264 ?_
      refine lv_aload_n hx hb dL_law_265 rfl (lv_at hl 0 rfl) ?_
      refine lv_iload_n hx hb dL_law_266 rfl (lv_at hl 3 rfl) ?_
      refine lv_iconst (v := 2) hx hb dL_law_267 (by decide) ?_
      refine lv_iadd hx hb dL_law_268 ?_
      refine va_sld hx hb hX hbl hbA X.2.2.2.1 i2 dL_law_269 ?_
      refine hm_vi (As := [.int (xs (nI i + 1).toNatClampNeg), .int (xs (nI i + 2).toNatClampNeg)]) S X mw_X7_place hw_2_130 (c_X7_place l g a R Z ScR SeR SeA LeR LeZ BrA ShR ShZ SuA SuJ (xs (nI i + 1).toNatClampNeg) (xs (nI i + 2).toNatClampNeg) q hq) hm_lawL (ws' := (hm_wHM g a R Z ScR SeR SeA LeR LeZ BrA ShR ShZ SuA SuJ ++ hm_wMM g b9 A9 Z9)) hm_lawL rfl rfl rfl ⟨rfl, rfl, Nat.le_of_ble_eq_true rfl, Nat.le_of_ble_eq_true rfl⟩ rfl hl.1 rfl (Nat.le_of_ble_eq_true rfl) dL_law_270 ⟨Nat.le_of_ble_eq_true rfl, Nat.le_of_ble_eq_true rfl⟩ (fun H locs X => ?_)
      refine lv_aload_n hx hb dL_law_273 rfl (lv_at hl 2 rfl) ?_
      refine lv_aload_n hx hb dL_law_274 rfl (lv_at hl 0 rfl) ?_
      refine lv_iload_n hx hb dL_law_275 rfl (lv_at hl 3 rfl) ?_
      refine lv_iconst (v := 1) hx hb dL_law_276 (by decide) ?_
      refine lv_iadd hx hb dL_law_277 ?_
      refine va_sld hx hb hX hbl hbA X.2.2.2.1 i1 dL_law_278 ?_
      refine lv_aload_n hx hb dL_law_279 rfl (lv_at hl 0 rfl) ?_
      refine lv_iload_n hx hb dL_law_280 rfl (lv_at hl 3 rfl) ?_
      refine lv_iconst (v := 2) hx hb dL_law_281 (by decide) ?_
      refine lv_iadd hx hb dL_law_282 ?_
      refine va_sld hx hb hX hbl hbA X.2.2.2.1 i2 dL_law_283 ?_
      refine hm_vi (As := [.int (xs (nI i + 1).toNatClampNeg), .int (xs (nI i + 2).toNatClampNeg)]) S X mw_X8_place hw_5_2 (c_X8_place l g b9 A9 Z9 (xs (nI i + 1).toNatClampNeg) (xs (nI i + 2).toNatClampNeg) q9 hq9) hm_lawR (ws' := (hm_wHM g a R Z ScR SeR SeA LeR LeZ BrA ShR ShZ SuA SuJ ++ hm_wMM g b9 A9 Z9)) hm_lawR rfl rfl rfl ⟨rfl, rfl, Nat.le_of_ble_eq_true rfl, Nat.le_of_ble_eq_true rfl⟩ rfl hl.1 rfl (Nat.le_of_ble_eq_true rfl) dL_law_284 ⟨Nat.le_of_ble_eq_true rfl, Nat.le_of_ble_eq_true rfl⟩ (fun H locs X => ?_)
      refine lv_icmp_eq (tgt := 756) hx hb dL_law_287 (by decide) (fun _ => ?_) (fun hne => absurd eq hne)
      exact hgo _ _ _ _ _ _ _ _ _ _ _ _ _ _ hRel _ _ X _ hl
    by_cases c32_6 : sw = 6
    · refine hm_tabIn (off := 260) (tgt := 292) (k := 6) hx hb dL_law_32 c32_6 (by decide) (by decide) (by decide) rfl (by decide) ?_
      obtain ⟨q, q9, hq, hq9, eq, hRel⟩ := st6 _ _ _ _ _ _ _ _ _ _ _ _ _ _ hRel (xs (nI i + 1).toNatClampNeg) (xs (nI i + 2).toNatClampNeg)
      refine lv_aload_n hx hb dL_law_292 rfl (lv_at hl 1 rfl) ?_
      refine lv_aload_n hx hb dL_law_293 rfl (lv_at hl 0 rfl) ?_
      refine lv_iload_n hx hb dL_law_294 rfl (lv_at hl 3 rfl) ?_
      refine lv_iconst (v := 1) hx hb dL_law_295 (by decide) ?_
      refine lv_iadd hx hb dL_law_296 ?_
      refine va_sld hx hb hX hbl hbA X.2.2.2.1 i1 dL_law_297 ?_
      refine lv_aload_n hx hb dL_law_298 rfl (lv_at hl 0 rfl) ?_
      refine lv_iload_n hx hb dL_law_299 rfl (lv_at hl 3 rfl) ?_
      refine lv_iconst (v := 2) hx hb dL_law_300 (by decide) ?_
      refine lv_iadd hx hb dL_law_301 ?_
      refine va_sld hx hb hX hbl hbA X.2.2.2.1 i2 dL_law_302 ?_
      refine hm_vi (As := [.int (xs (nI i + 1).toNatClampNeg), .int (xs (nI i + 2).toNatClampNeg)]) S X mw_X7_wide hw_2_151 (c_X7_wide l g a R Z ScR SeR SeA LeR LeZ BrA ShR ShZ SuA SuJ (xs (nI i + 1).toNatClampNeg) (xs (nI i + 2).toNatClampNeg) q hq) hm_lawL (ws' := (hm_wHM g a R (hm_up (hm_up Z 0 q.2.2.2.2.1) 1 q.2.2.2.2.2) ScR (hm_up (hm_up SeR 0 q.2.2.1) 1 q.2.2.2.1) (hm_up SeA 0 q.2.1) LeR LeZ BrA ShR ShZ SuA SuJ ++ hm_wMM g b9 A9 Z9)) hm_lawL rfl rfl rfl ⟨rfl, rfl, Nat.le_of_ble_eq_true rfl, Nat.le_of_ble_eq_true rfl⟩ rfl hl.1 rfl (Nat.le_of_ble_eq_true rfl) dL_law_303 ⟨Nat.le_of_ble_eq_true rfl, Nat.le_of_ble_eq_true rfl⟩ (fun H locs X => ?_)
      refine lv_aload_n hx hb dL_law_306 rfl (lv_at hl 2 rfl) ?_
      refine lv_aload_n hx hb dL_law_307 rfl (lv_at hl 0 rfl) ?_
      refine lv_iload_n hx hb dL_law_308 rfl (lv_at hl 3 rfl) ?_
      refine lv_iconst (v := 1) hx hb dL_law_309 (by decide) ?_
      refine lv_iadd hx hb dL_law_310 ?_
      refine va_sld hx hb hX hbl hbA X.2.2.2.1 i1 dL_law_311 ?_
      refine lv_aload_n hx hb dL_law_312 rfl (lv_at hl 0 rfl) ?_
      refine lv_iload_n hx hb dL_law_313 rfl (lv_at hl 3 rfl) ?_
      refine lv_iconst (v := 2) hx hb dL_law_314 (by decide) ?_
      refine lv_iadd hx hb dL_law_315 ?_
      refine va_sld hx hb hX hbl hbA X.2.2.2.1 i2 dL_law_316 ?_
      refine hm_vi (As := [.int (xs (nI i + 1).toNatClampNeg), .int (xs (nI i + 2).toNatClampNeg)]) S X mw_X8_wide hw_5_10 (c_X8_wide l g b9 A9 Z9 (xs (nI i + 1).toNatClampNeg) (xs (nI i + 2).toNatClampNeg) q9 hq9) hm_lawR (ws' := (hm_wHM g a R (hm_up (hm_up Z 0 q.2.2.2.2.1) 1 q.2.2.2.2.2) ScR (hm_up (hm_up SeR 0 q.2.2.1) 1 q.2.2.2.1) (hm_up SeA 0 q.2.1) LeR LeZ BrA ShR ShZ SuA SuJ ++ hm_wMM g b9 (hm_up (hm_up A9 7 q9.2.1) 8 q9.2.2.1) (hm_up Z9 4 q9.2.2.2))) hm_lawR rfl rfl rfl ⟨rfl, rfl, Nat.le_of_ble_eq_true rfl, Nat.le_of_ble_eq_true rfl⟩ rfl hl.1 rfl (Nat.le_of_ble_eq_true rfl) dL_law_317 ⟨Nat.le_of_ble_eq_true rfl, Nat.le_of_ble_eq_true rfl⟩ (fun H locs X => ?_)
      refine lv_icmp_eq (tgt := 756) hx hb dL_law_320 (by decide) (fun _ => ?_) (fun hne => absurd eq hne)
      exact hgo _ _ _ _ _ _ _ _ _ _ _ _ _ _ hRel _ _ X _ hl
    by_cases c32_7 : sw = 7
    · refine hm_tabIn (off := 293) (tgt := 325) (k := 7) hx hb dL_law_32 c32_7 (by decide) (by decide) (by decide) rfl (by decide) ?_
      obtain ⟨q, q9, hq, hq9, eq, hRel⟩ := st7 _ _ _ _ _ _ _ _ _ _ _ _ _ _ hRel (xs (nI i + 1).toNatClampNeg) (xs (nI i + 2).toNatClampNeg)
      refine lv_aload_n hx hb dL_law_325 rfl (lv_at hl 1 rfl) ?_
      refine lv_aload_n hx hb dL_law_326 rfl (lv_at hl 0 rfl) ?_
      refine lv_iload_n hx hb dL_law_327 rfl (lv_at hl 3 rfl) ?_
      refine lv_iconst (v := 1) hx hb dL_law_328 (by decide) ?_
      refine lv_iadd hx hb dL_law_329 ?_
      refine va_sld hx hb hX hbl hbA X.2.2.2.1 i1 dL_law_330 ?_
      refine lv_aload_n hx hb dL_law_331 rfl (lv_at hl 0 rfl) ?_
      refine lv_iload_n hx hb dL_law_332 rfl (lv_at hl 3 rfl) ?_
      refine lv_iconst (v := 2) hx hb dL_law_333 (by decide) ?_
      refine lv_iadd hx hb dL_law_334 ?_
      refine va_sld hx hb hX hbl hbA X.2.2.2.1 i2 dL_law_335 ?_
      refine hm_vi (As := [.int (xs (nI i + 1).toNatClampNeg), .int (xs (nI i + 2).toNatClampNeg)]) S X mw_X7_hangs hw_2_187 (c_X7_hangs l g a R Z ScR SeR SeA LeR LeZ BrA ShR ShZ SuA SuJ (xs (nI i + 1).toNatClampNeg) (xs (nI i + 2).toNatClampNeg) q hq) hm_lawL (ws' := (hm_wHM g a R (hm_up (hm_up Z 0 q.2.2.2.2.1) 1 q.2.2.2.2.2) ScR (hm_up (hm_up SeR 0 q.2.2.1) 1 q.2.2.2.1) (hm_up SeA 0 q.2.1) LeR LeZ BrA ShR ShZ SuA SuJ ++ hm_wMM g b9 A9 Z9)) hm_lawL rfl rfl rfl ⟨rfl, rfl, Nat.le_of_ble_eq_true rfl, Nat.le_of_ble_eq_true rfl⟩ rfl hl.1 rfl (Nat.le_of_ble_eq_true rfl) dL_law_336 ⟨Nat.le_of_ble_eq_true rfl, Nat.le_of_ble_eq_true rfl⟩ (fun H locs X => ?_)
      refine lv_aload_n hx hb dL_law_339 rfl (lv_at hl 2 rfl) ?_
      refine lv_aload_n hx hb dL_law_340 rfl (lv_at hl 0 rfl) ?_
      refine lv_iload_n hx hb dL_law_341 rfl (lv_at hl 3 rfl) ?_
      refine lv_iconst (v := 1) hx hb dL_law_342 (by decide) ?_
      refine lv_iadd hx hb dL_law_343 ?_
      refine va_sld hx hb hX hbl hbA X.2.2.2.1 i1 dL_law_344 ?_
      refine lv_aload_n hx hb dL_law_345 rfl (lv_at hl 0 rfl) ?_
      refine lv_iload_n hx hb dL_law_346 rfl (lv_at hl 3 rfl) ?_
      refine lv_iconst (v := 2) hx hb dL_law_347 (by decide) ?_
      refine lv_iadd hx hb dL_law_348 ?_
      refine va_sld hx hb hX hbl hbA X.2.2.2.1 i2 dL_law_349 ?_
      refine hm_vi (As := [.int (xs (nI i + 1).toNatClampNeg), .int (xs (nI i + 2).toNatClampNeg)]) S X mw_X8_hangs hw_5_25 (c_X8_hangs l g b9 A9 Z9 (xs (nI i + 1).toNatClampNeg) (xs (nI i + 2).toNatClampNeg) q9 hq9) hm_lawR (ws' := (hm_wHM g a R (hm_up (hm_up Z 0 q.2.2.2.2.1) 1 q.2.2.2.2.2) ScR (hm_up (hm_up SeR 0 q.2.2.1) 1 q.2.2.2.1) (hm_up SeA 0 q.2.1) LeR LeZ BrA ShR ShZ SuA SuJ ++ hm_wMM g b9 (hm_up (hm_up A9 7 q9.2.1) 8 q9.2.2.1) (hm_up Z9 4 q9.2.2.2))) hm_lawR rfl rfl rfl ⟨rfl, rfl, Nat.le_of_ble_eq_true rfl, Nat.le_of_ble_eq_true rfl⟩ rfl hl.1 rfl (Nat.le_of_ble_eq_true rfl) dL_law_350 ⟨Nat.le_of_ble_eq_true rfl, Nat.le_of_ble_eq_true rfl⟩ (fun H locs X => ?_)
      refine lv_icmp_eq (tgt := 756) hx hb dL_law_353 (by decide) (fun _ => ?_) (fun hne => absurd eq hne)
      exact hgo _ _ _ _ _ _ _ _ _ _ _ _ _ _ hRel _ _ X _ hl
    by_cases c32_8 : sw = 8
    · refine hm_tabIn (off := 326) (tgt := 358) (k := 8) hx hb dL_law_32 c32_8 (by decide) (by decide) (by decide) rfl (by decide) ?_
      obtain ⟨q, q9, hq, hq9, eq, hRel⟩ := st8 _ _ _ _ _ _ _ _ _ _ _ _ _ _ hRel (xs (nI i + 1).toNatClampNeg) (xs (nI i + 2).toNatClampNeg)
      refine lv_aload_n hx hb dL_law_358 rfl (lv_at hl 1 rfl) ?_
      refine lv_aload_n hx hb dL_law_359 rfl (lv_at hl 0 rfl) ?_
      refine lv_iload_n hx hb dL_law_360 rfl (lv_at hl 3 rfl) ?_
      refine lv_iconst (v := 1) hx hb dL_law_361 (by decide) ?_
      refine lv_iadd hx hb dL_law_362 ?_
      refine va_sld hx hb hX hbl hbA X.2.2.2.1 i1 dL_law_363 ?_
      refine lv_aload_n hx hb dL_law_364 rfl (lv_at hl 0 rfl) ?_
      refine lv_iload_n hx hb dL_law_365 rfl (lv_at hl 3 rfl) ?_
      refine lv_iconst (v := 2) hx hb dL_law_366 (by decide) ?_
      refine lv_iadd hx hb dL_law_367 ?_
      refine va_sld hx hb hX hbl hbA X.2.2.2.1 i2 dL_law_368 ?_
      refine hm_vi (As := [.int (xs (nI i + 1).toNatClampNeg), .int (xs (nI i + 2).toNatClampNeg)]) S X mw_X7_sets hw_2_194 (c_X7_sets l g a R Z ScR SeR SeA LeR LeZ BrA ShR ShZ SuA SuJ (xs (nI i + 1).toNatClampNeg) (xs (nI i + 2).toNatClampNeg) q hq) hm_lawL (ws' := (hm_wHM g a R (hm_up (hm_up Z 0 q.2.2.2.2.1) 1 q.2.2.2.2.2) ScR (hm_up (hm_up SeR 0 q.2.2.1) 1 q.2.2.2.1) (hm_up SeA 0 q.2.1) LeR LeZ BrA ShR ShZ SuA SuJ ++ hm_wMM g b9 A9 Z9)) hm_lawL rfl rfl rfl ⟨rfl, rfl, Nat.le_of_ble_eq_true rfl, Nat.le_of_ble_eq_true rfl⟩ rfl hl.1 rfl (Nat.le_of_ble_eq_true rfl) dL_law_369 ⟨Nat.le_of_ble_eq_true rfl, Nat.le_of_ble_eq_true rfl⟩ (fun H locs X => ?_)
      refine lv_aload_n hx hb dL_law_372 rfl (lv_at hl 2 rfl) ?_
      refine lv_aload_n hx hb dL_law_373 rfl (lv_at hl 0 rfl) ?_
      refine lv_iload_n hx hb dL_law_374 rfl (lv_at hl 3 rfl) ?_
      refine lv_iconst (v := 1) hx hb dL_law_375 (by decide) ?_
      refine lv_iadd hx hb dL_law_376 ?_
      refine va_sld hx hb hX hbl hbA X.2.2.2.1 i1 dL_law_377 ?_
      refine lv_aload_n hx hb dL_law_378 rfl (lv_at hl 0 rfl) ?_
      refine lv_iload_n hx hb dL_law_379 rfl (lv_at hl 3 rfl) ?_
      refine lv_iconst (v := 2) hx hb dL_law_380 (by decide) ?_
      refine lv_iadd hx hb dL_law_381 ?_
      refine va_sld hx hb hX hbl hbA X.2.2.2.1 i2 dL_law_382 ?_
      refine hm_vi (As := [.int (xs (nI i + 1).toNatClampNeg), .int (xs (nI i + 2).toNatClampNeg)]) S X mw_X8_sets hw_5_29 (c_X8_sets l g b9 A9 Z9 (xs (nI i + 1).toNatClampNeg) (xs (nI i + 2).toNatClampNeg) q9 hq9) hm_lawR (ws' := (hm_wHM g a R (hm_up (hm_up Z 0 q.2.2.2.2.1) 1 q.2.2.2.2.2) ScR (hm_up (hm_up SeR 0 q.2.2.1) 1 q.2.2.2.1) (hm_up SeA 0 q.2.1) LeR LeZ BrA ShR ShZ SuA SuJ ++ hm_wMM g b9 (hm_up (hm_up A9 7 q9.2.1) 8 q9.2.2.1) (hm_up Z9 4 q9.2.2.2))) hm_lawR rfl rfl rfl ⟨rfl, rfl, Nat.le_of_ble_eq_true rfl, Nat.le_of_ble_eq_true rfl⟩ rfl hl.1 rfl (Nat.le_of_ble_eq_true rfl) dL_law_383 ⟨Nat.le_of_ble_eq_true rfl, Nat.le_of_ble_eq_true rfl⟩ (fun H locs X => ?_)
      refine lv_icmp_eq (tgt := 756) hx hb dL_law_386 (by decide) (fun _ => ?_) (fun hne => absurd eq hne)
      exact hgo _ _ _ _ _ _ _ _ _ _ _ _ _ _ hRel _ _ X _ hl
    by_cases c32_9 : sw = 9
    · refine hm_tabIn (off := 359) (tgt := 391) (k := 9) hx hb dL_law_32 c32_9 (by decide) (by decide) (by decide) rfl (by decide) ?_
      obtain ⟨q, q9, hq, hq9, eq, hRel⟩ := st9 _ _ _ _ _ _ _ _ _ _ _ _ _ _ hRel ()
      refine lv_aload_n hx hb dL_law_391 rfl (lv_at hl 1 rfl) ?_
      refine hm_vi (As := []) S X mw_X7_undo hw_2_202 (c_X7_undo l g a R Z ScR SeR SeA LeR LeZ BrA ShR ShZ SuA SuJ  q hq) hm_lawL (ws' := (hm_wHM g a R (hm_up (hm_up Z 0 q.2.2.2.2.1) 1 q.2.2.2.2.2) ScR (hm_up (hm_up SeR 0 q.2.2.1) 1 q.2.2.2.1) (hm_up SeA 0 q.2.1) LeR LeZ BrA ShR ShZ SuA SuJ ++ hm_wMM g b9 A9 Z9)) hm_lawL rfl rfl rfl ⟨rfl, rfl, Nat.le_of_ble_eq_true rfl, Nat.le_of_ble_eq_true rfl⟩ rfl hl.1 rfl (Nat.le_of_ble_eq_true rfl) dL_law_392 ⟨Nat.le_of_ble_eq_true rfl, Nat.le_of_ble_eq_true rfl⟩ (fun H locs X => ?_)
      refine lv_aload_n hx hb dL_law_395 rfl (lv_at hl 2 rfl) ?_
      refine hm_vi (As := []) S X mw_X8_undo hw_5_33 (c_X8_undo l g b9 A9 Z9  q9 hq9) hm_lawR (ws' := (hm_wHM g a R (hm_up (hm_up Z 0 q.2.2.2.2.1) 1 q.2.2.2.2.2) ScR (hm_up (hm_up SeR 0 q.2.2.1) 1 q.2.2.2.1) (hm_up SeA 0 q.2.1) LeR LeZ BrA ShR ShZ SuA SuJ ++ hm_wMM g b9 (hm_up A9 7 q9.2.1) (hm_up Z9 4 q9.2.2))) hm_lawR rfl rfl rfl ⟨rfl, rfl, Nat.le_of_ble_eq_true rfl, Nat.le_of_ble_eq_true rfl⟩ rfl hl.1 rfl (Nat.le_of_ble_eq_true rfl) dL_law_396 ⟨Nat.le_of_ble_eq_true rfl, Nat.le_of_ble_eq_true rfl⟩ (fun H locs X => ?_)
      refine lv_icmp_eq (tgt := 756) hx hb dL_law_399 (by decide) (fun _ => ?_) (fun hne => absurd eq hne)
      exact hgo _ _ _ _ _ _ _ _ _ _ _ _ _ _ hRel _ _ X _ hl
    by_cases c32_10 : sw = 10
    · refine hm_tabIn (off := 372) (tgt := 404) (k := 10) hx hb dL_law_32 c32_10 (by decide) (by decide) (by decide) rfl (by decide) ?_
      obtain ⟨q, q9, hq, hq9, eq, hRel⟩ := st10 _ _ _ _ _ _ _ _ _ _ _ _ _ _ hRel (xs (nI i + 1).toNatClampNeg)
      refine lv_aload_n hx hb dL_law_404 rfl (lv_at hl 1 rfl) ?_
      refine lv_aload_n hx hb dL_law_405 rfl (lv_at hl 0 rfl) ?_
      refine lv_iload_n hx hb dL_law_406 rfl (lv_at hl 3 rfl) ?_
      refine lv_iconst (v := 1) hx hb dL_law_407 (by decide) ?_
      refine lv_iadd hx hb dL_law_408 ?_
      refine va_sld hx hb hX hbl hbA X.2.2.2.1 i1 dL_law_409 ?_
      refine hm_vi (As := [.int (xs (nI i + 1).toNatClampNeg)]) S X mw_X7_page hw_2_216 (c_X7_page l g a R Z ScR SeR SeA LeR LeZ BrA ShR ShZ SuA SuJ (xs (nI i + 1).toNatClampNeg) q hq) hm_lawL (ws' := (hm_wHM g a R (hm_up Z 0 q.2.2.2.2.2.2.2.2.2.2.2.2.2.2.2.2.2.2.2.2.2) ScR SeR SeA (hm_up (hm_up (hm_up (hm_up (hm_up LeR 0 q.2.2.2.2.1) 1 q.2.2.2.2.2.1) 2 q.2.2.2.2.2.2.1) 3 q.2.2.2.2.2.2.2.1) 4 q.2.2.2.2.2.2.2.2.1) (hm_up (hm_up (hm_up (hm_up LeZ 0 q.2.2.2.2.2.2.2.2.2.1) 1 q.2.2.2.2.2.2.2.2.2.2.1) 2 q.2.2.2.2.2.2.2.2.2.2.2.1) 3 q.2.2.2.2.2.2.2.2.2.2.2.2.1) (hm_up (hm_up (hm_up BrA 0 q.2.1) 1 q.2.2.1) 2 q.2.2.2.1) (hm_up (hm_up (hm_up (hm_up (hm_up (hm_up ShR 0 q.2.2.2.2.2.2.2.2.2.2.2.2.2.1) 1 q.2.2.2.2.2.2.2.2.2.2.2.2.2.2.1) 2 q.2.2.2.2.2.2.2.2.2.2.2.2.2.2.2.1) 3 q.2.2.2.2.2.2.2.2.2.2.2.2.2.2.2.2.1) 4 q.2.2.2.2.2.2.2.2.2.2.2.2.2.2.2.2.2.1) 5 q.2.2.2.2.2.2.2.2.2.2.2.2.2.2.2.2.2.2.1) (hm_up (hm_up ShZ 0 q.2.2.2.2.2.2.2.2.2.2.2.2.2.2.2.2.2.2.2.1) 1 q.2.2.2.2.2.2.2.2.2.2.2.2.2.2.2.2.2.2.2.2.1) SuA SuJ ++ hm_wMM g b9 A9 Z9)) hm_lawL rfl rfl rfl ⟨rfl, rfl, Nat.le_of_ble_eq_true rfl, Nat.le_of_ble_eq_true rfl⟩ rfl hl.1 rfl (Nat.le_of_ble_eq_true rfl) dL_law_410 ⟨Nat.le_of_ble_eq_true rfl, Nat.le_of_ble_eq_true rfl⟩ (fun H locs X => ?_)
      refine lv_aload_n hx hb dL_law_413 rfl (lv_at hl 2 rfl) ?_
      refine lv_aload_n hx hb dL_law_414 rfl (lv_at hl 0 rfl) ?_
      refine lv_iload_n hx hb dL_law_415 rfl (lv_at hl 3 rfl) ?_
      refine lv_iconst (v := 1) hx hb dL_law_416 (by decide) ?_
      refine lv_iadd hx hb dL_law_417 ?_
      refine va_sld hx hb hX hbl hbA X.2.2.2.1 i1 dL_law_418 ?_
      refine hm_vi (As := [.int (xs (nI i + 1).toNatClampNeg)]) S X mw_X8_page hw_5_37 (c_X8_page l g b9 A9 Z9 (xs (nI i + 1).toNatClampNeg) q9 hq9) hm_lawR (ws' := (hm_wHM g a R (hm_up Z 0 q.2.2.2.2.2.2.2.2.2.2.2.2.2.2.2.2.2.2.2.2.2) ScR SeR SeA (hm_up (hm_up (hm_up (hm_up (hm_up LeR 0 q.2.2.2.2.1) 1 q.2.2.2.2.2.1) 2 q.2.2.2.2.2.2.1) 3 q.2.2.2.2.2.2.2.1) 4 q.2.2.2.2.2.2.2.2.1) (hm_up (hm_up (hm_up (hm_up LeZ 0 q.2.2.2.2.2.2.2.2.2.1) 1 q.2.2.2.2.2.2.2.2.2.2.1) 2 q.2.2.2.2.2.2.2.2.2.2.2.1) 3 q.2.2.2.2.2.2.2.2.2.2.2.2.1) (hm_up (hm_up (hm_up BrA 0 q.2.1) 1 q.2.2.1) 2 q.2.2.2.1) (hm_up (hm_up (hm_up (hm_up (hm_up (hm_up ShR 0 q.2.2.2.2.2.2.2.2.2.2.2.2.2.1) 1 q.2.2.2.2.2.2.2.2.2.2.2.2.2.2.1) 2 q.2.2.2.2.2.2.2.2.2.2.2.2.2.2.2.1) 3 q.2.2.2.2.2.2.2.2.2.2.2.2.2.2.2.2.1) 4 q.2.2.2.2.2.2.2.2.2.2.2.2.2.2.2.2.2.1) 5 q.2.2.2.2.2.2.2.2.2.2.2.2.2.2.2.2.2.2.1) (hm_up (hm_up ShZ 0 q.2.2.2.2.2.2.2.2.2.2.2.2.2.2.2.2.2.2.2.1) 1 q.2.2.2.2.2.2.2.2.2.2.2.2.2.2.2.2.2.2.2.2.1) SuA SuJ ++ hm_wMM g b9 (hm_up (hm_up (hm_up (hm_up (hm_up (hm_up (hm_up (hm_up (hm_up (hm_up A9 14 q9.2.1) 15 q9.2.2.1) 16 q9.2.2.2.1) 17 q9.2.2.2.2.1) 18 q9.2.2.2.2.2.1) 19 q9.2.2.2.2.2.2.1) 20 q9.2.2.2.2.2.2.2.1) 21 q9.2.2.2.2.2.2.2.2.1) 22 q9.2.2.2.2.2.2.2.2.2.1) 23 q9.2.2.2.2.2.2.2.2.2.2.1) (hm_up (hm_up Z9 7 q9.2.2.2.2.2.2.2.2.2.2.2.1) 8 q9.2.2.2.2.2.2.2.2.2.2.2.2))) hm_lawR rfl rfl rfl ⟨rfl, rfl, Nat.le_of_ble_eq_true rfl, Nat.le_of_ble_eq_true rfl⟩ rfl hl.1 rfl (Nat.le_of_ble_eq_true rfl) dL_law_419 ⟨Nat.le_of_ble_eq_true rfl, Nat.le_of_ble_eq_true rfl⟩ (fun H locs X => ?_)
      refine lv_icmp_eq (tgt := 756) hx hb dL_law_422 (by decide) (fun _ => ?_) (fun hne => absurd eq hne)
      exact hgo _ _ _ _ _ _ _ _ _ _ _ _ _ _ hRel _ _ X _ hl
    by_cases c32_11 : sw = 11
    · refine hm_tabIn (off := 395) (tgt := 427) (k := 11) hx hb dL_law_32 c32_11 (by decide) (by decide) (by decide) rfl (by decide) ?_
      obtain ⟨q, q9, hq, hq9, eq, hRel⟩ := st11 _ _ _ _ _ _ _ _ _ _ _ _ _ _ hRel (xs (nI i + 1).toNatClampNeg) (xs (nI i + 2).toNatClampNeg)
      refine lv_aload_n hx hb dL_law_427 rfl (lv_at hl 1 rfl) ?_
      refine lv_aload_n hx hb dL_law_428 rfl (lv_at hl 0 rfl) ?_
      refine lv_iload_n hx hb dL_law_429 rfl (lv_at hl 3 rfl) ?_
      refine lv_iconst (v := 1) hx hb dL_law_430 (by decide) ?_
      refine lv_iadd hx hb dL_law_431 ?_
      refine va_sld hx hb hX hbl hbA X.2.2.2.1 i1 dL_law_432 ?_
      refine lv_aload_n hx hb dL_law_433 rfl (lv_at hl 0 rfl) ?_
      refine lv_iload_n hx hb dL_law_434 rfl (lv_at hl 3 rfl) ?_
      refine lv_iconst (v := 2) hx hb dL_law_435 (by decide) ?_
      refine lv_iadd hx hb dL_law_436 ?_
      refine va_sld hx hb hX hbl hbA X.2.2.2.1 i2 dL_law_437 ?_
      refine hm_vi (As := [.int (xs (nI i + 1).toNatClampNeg), .int (xs (nI i + 2).toNatClampNeg)]) S X mw_X7_line hw_3_157 (c_X7_line l g a R Z ScR SeR SeA LeR LeZ BrA ShR ShZ SuA SuJ (xs (nI i + 1).toNatClampNeg) (xs (nI i + 2).toNatClampNeg) q hq) hm_lawL (ws' := (hm_wHM g a R (hm_up Z 0 q.2.2.2.2.2.2.2.2.2.2.2.2.2.2.2.2.2.2.2.2.2) ScR SeR SeA (hm_up (hm_up (hm_up (hm_up (hm_up LeR 0 q.2.2.2.2.1) 1 q.2.2.2.2.2.1) 2 q.2.2.2.2.2.2.1) 3 q.2.2.2.2.2.2.2.1) 4 q.2.2.2.2.2.2.2.2.1) (hm_up (hm_up (hm_up (hm_up LeZ 0 q.2.2.2.2.2.2.2.2.2.1) 1 q.2.2.2.2.2.2.2.2.2.2.1) 2 q.2.2.2.2.2.2.2.2.2.2.2.1) 3 q.2.2.2.2.2.2.2.2.2.2.2.2.1) (hm_up (hm_up (hm_up BrA 0 q.2.1) 1 q.2.2.1) 2 q.2.2.2.1) (hm_up (hm_up (hm_up (hm_up (hm_up (hm_up ShR 0 q.2.2.2.2.2.2.2.2.2.2.2.2.2.1) 1 q.2.2.2.2.2.2.2.2.2.2.2.2.2.2.1) 2 q.2.2.2.2.2.2.2.2.2.2.2.2.2.2.2.1) 3 q.2.2.2.2.2.2.2.2.2.2.2.2.2.2.2.2.1) 4 q.2.2.2.2.2.2.2.2.2.2.2.2.2.2.2.2.2.1) 5 q.2.2.2.2.2.2.2.2.2.2.2.2.2.2.2.2.2.2.1) (hm_up (hm_up ShZ 0 q.2.2.2.2.2.2.2.2.2.2.2.2.2.2.2.2.2.2.2.1) 1 q.2.2.2.2.2.2.2.2.2.2.2.2.2.2.2.2.2.2.2.2.1) SuA SuJ ++ hm_wMM g b9 A9 Z9)) hm_lawL rfl rfl rfl ⟨rfl, rfl, Nat.le_of_ble_eq_true rfl, Nat.le_of_ble_eq_true rfl⟩ rfl hl.1 rfl (Nat.le_of_ble_eq_true rfl) dL_law_438 ⟨Nat.le_of_ble_eq_true rfl, Nat.le_of_ble_eq_true rfl⟩ (fun H locs X => ?_)
      refine lv_aload_n hx hb dL_law_441 rfl (lv_at hl 2 rfl) ?_
      refine lv_aload_n hx hb dL_law_442 rfl (lv_at hl 0 rfl) ?_
      refine lv_iload_n hx hb dL_law_443 rfl (lv_at hl 3 rfl) ?_
      refine lv_iconst (v := 1) hx hb dL_law_444 (by decide) ?_
      refine lv_iadd hx hb dL_law_445 ?_
      refine va_sld hx hb hX hbl hbA X.2.2.2.1 i1 dL_law_446 ?_
      refine lv_aload_n hx hb dL_law_447 rfl (lv_at hl 0 rfl) ?_
      refine lv_iload_n hx hb dL_law_448 rfl (lv_at hl 3 rfl) ?_
      refine lv_iconst (v := 2) hx hb dL_law_449 (by decide) ?_
      refine lv_iadd hx hb dL_law_450 ?_
      refine va_sld hx hb hX hbl hbA X.2.2.2.1 i2 dL_law_451 ?_
      refine hm_vi (As := [.int (xs (nI i + 1).toNatClampNeg), .int (xs (nI i + 2).toNatClampNeg)]) S X mw_X8_line hw_5_113 (c_X8_line l g b9 A9 Z9 (xs (nI i + 1).toNatClampNeg) (xs (nI i + 2).toNatClampNeg) q9 hq9) hm_lawR (ws' := (hm_wHM g a R (hm_up Z 0 q.2.2.2.2.2.2.2.2.2.2.2.2.2.2.2.2.2.2.2.2.2) ScR SeR SeA (hm_up (hm_up (hm_up (hm_up (hm_up LeR 0 q.2.2.2.2.1) 1 q.2.2.2.2.2.1) 2 q.2.2.2.2.2.2.1) 3 q.2.2.2.2.2.2.2.1) 4 q.2.2.2.2.2.2.2.2.1) (hm_up (hm_up (hm_up (hm_up LeZ 0 q.2.2.2.2.2.2.2.2.2.1) 1 q.2.2.2.2.2.2.2.2.2.2.1) 2 q.2.2.2.2.2.2.2.2.2.2.2.1) 3 q.2.2.2.2.2.2.2.2.2.2.2.2.1) (hm_up (hm_up (hm_up BrA 0 q.2.1) 1 q.2.2.1) 2 q.2.2.2.1) (hm_up (hm_up (hm_up (hm_up (hm_up (hm_up ShR 0 q.2.2.2.2.2.2.2.2.2.2.2.2.2.1) 1 q.2.2.2.2.2.2.2.2.2.2.2.2.2.2.1) 2 q.2.2.2.2.2.2.2.2.2.2.2.2.2.2.2.1) 3 q.2.2.2.2.2.2.2.2.2.2.2.2.2.2.2.2.1) 4 q.2.2.2.2.2.2.2.2.2.2.2.2.2.2.2.2.2.1) 5 q.2.2.2.2.2.2.2.2.2.2.2.2.2.2.2.2.2.2.1) (hm_up (hm_up ShZ 0 q.2.2.2.2.2.2.2.2.2.2.2.2.2.2.2.2.2.2.2.1) 1 q.2.2.2.2.2.2.2.2.2.2.2.2.2.2.2.2.2.2.2.2.1) SuA SuJ ++ hm_wMM g b9 (hm_up (hm_up (hm_up (hm_up (hm_up A9 14 q9.2.1) 15 q9.2.2.1) 16 q9.2.2.2.1) 17 q9.2.2.2.2.1) 18 q9.2.2.2.2.2.1) (hm_up Z9 7 q9.2.2.2.2.2.2))) hm_lawR rfl rfl rfl ⟨rfl, rfl, Nat.le_of_ble_eq_true rfl, Nat.le_of_ble_eq_true rfl⟩ rfl hl.1 rfl (Nat.le_of_ble_eq_true rfl) dL_law_452 ⟨Nat.le_of_ble_eq_true rfl, Nat.le_of_ble_eq_true rfl⟩ (fun H locs X => ?_)
      refine lv_icmp_eq (tgt := 756) hx hb dL_law_455 (by decide) (fun _ => ?_) (fun hne => absurd eq hne)
      exact hgo _ _ _ _ _ _ _ _ _ _ _ _ _ _ hRel _ _ X _ hl
    by_cases c32_12 : sw = 12
    · refine hm_tabIn (off := 428) (tgt := 460) (k := 12) hx hb dL_law_32 c32_12 (by decide) (by decide) (by decide) rfl (by decide) ?_
      obtain ⟨q, q9, hq, hq9, eq, hRel⟩ := st12 _ _ _ _ _ _ _ _ _ _ _ _ _ _ hRel (xs (nI i + 1).toNatClampNeg) (xs (nI i + 2).toNatClampNeg) (xs (nI i + 3).toNatClampNeg)
      refine lv_aload_n hx hb dL_law_460 rfl (lv_at hl 1 rfl) ?_
      refine lv_aload_n hx hb dL_law_461 rfl (lv_at hl 0 rfl) ?_
      refine lv_iload_n hx hb dL_law_462 rfl (lv_at hl 3 rfl) ?_
      refine lv_iconst (v := 1) hx hb dL_law_463 (by decide) ?_
      refine lv_iadd hx hb dL_law_464 ?_
      refine va_sld hx hb hX hbl hbA X.2.2.2.1 i1 dL_law_465 ?_
      refine lv_aload_n hx hb dL_law_466 rfl (lv_at hl 0 rfl) ?_
      refine lv_iload_n hx hb dL_law_467 rfl (lv_at hl 3 rfl) ?_
      refine lv_iconst (v := 2) hx hb dL_law_468 (by decide) ?_
      refine lv_iadd hx hb dL_law_469 ?_
      refine va_sld hx hb hX hbl hbA X.2.2.2.1 i2 dL_law_470 ?_
      refine lv_aload_n hx hb dL_law_471 rfl (lv_at hl 0 rfl) ?_
      refine lv_iload_n hx hb dL_law_472 rfl (lv_at hl 3 rfl) ?_
      refine lv_iconst (v := 3) hx hb dL_law_473 (by decide) ?_
      refine lv_iadd hx hb dL_law_474 ?_
      refine va_sld hx hb hX hbl hbA X.2.2.2.1 i3 dL_law_475 ?_
      refine hm_vi (As := [.int (xs (nI i + 1).toNatClampNeg), .int (xs (nI i + 2).toNatClampNeg), .int (xs (nI i + 3).toNatClampNeg)]) S X mw_X7_blank hw_3_177 (c_X7_blank l g a R Z ScR SeR SeA LeR LeZ BrA ShR ShZ SuA SuJ (xs (nI i + 1).toNatClampNeg) (xs (nI i + 2).toNatClampNeg) (xs (nI i + 3).toNatClampNeg) q hq) hm_lawL (ws' := (hm_wHM g a R (hm_up Z 0 q.2.2.2.2.2.2.2.2.2.2.2.2.2.2.2.2.2.2.2.2.2) ScR SeR SeA (hm_up (hm_up (hm_up (hm_up (hm_up LeR 0 q.2.2.2.2.1) 1 q.2.2.2.2.2.1) 2 q.2.2.2.2.2.2.1) 3 q.2.2.2.2.2.2.2.1) 4 q.2.2.2.2.2.2.2.2.1) (hm_up (hm_up (hm_up (hm_up LeZ 0 q.2.2.2.2.2.2.2.2.2.1) 1 q.2.2.2.2.2.2.2.2.2.2.1) 2 q.2.2.2.2.2.2.2.2.2.2.2.1) 3 q.2.2.2.2.2.2.2.2.2.2.2.2.1) (hm_up (hm_up (hm_up BrA 0 q.2.1) 1 q.2.2.1) 2 q.2.2.2.1) (hm_up (hm_up (hm_up (hm_up (hm_up (hm_up ShR 0 q.2.2.2.2.2.2.2.2.2.2.2.2.2.1) 1 q.2.2.2.2.2.2.2.2.2.2.2.2.2.2.1) 2 q.2.2.2.2.2.2.2.2.2.2.2.2.2.2.2.1) 3 q.2.2.2.2.2.2.2.2.2.2.2.2.2.2.2.2.1) 4 q.2.2.2.2.2.2.2.2.2.2.2.2.2.2.2.2.2.1) 5 q.2.2.2.2.2.2.2.2.2.2.2.2.2.2.2.2.2.2.1) (hm_up (hm_up ShZ 0 q.2.2.2.2.2.2.2.2.2.2.2.2.2.2.2.2.2.2.2.1) 1 q.2.2.2.2.2.2.2.2.2.2.2.2.2.2.2.2.2.2.2.2.1) SuA SuJ ++ hm_wMM g b9 A9 Z9)) hm_lawL rfl rfl rfl ⟨rfl, rfl, Nat.le_of_ble_eq_true rfl, Nat.le_of_ble_eq_true rfl⟩ rfl hl.1 rfl (Nat.le_of_ble_eq_true rfl) dL_law_476 ⟨Nat.le_of_ble_eq_true rfl, Nat.le_of_ble_eq_true rfl⟩ (fun H locs X => ?_)
      refine lv_aload_n hx hb dL_law_479 rfl (lv_at hl 2 rfl) ?_
      refine lv_aload_n hx hb dL_law_480 rfl (lv_at hl 0 rfl) ?_
      refine lv_iload_n hx hb dL_law_481 rfl (lv_at hl 3 rfl) ?_
      refine lv_iconst (v := 1) hx hb dL_law_482 (by decide) ?_
      refine lv_iadd hx hb dL_law_483 ?_
      refine va_sld hx hb hX hbl hbA X.2.2.2.1 i1 dL_law_484 ?_
      refine lv_aload_n hx hb dL_law_485 rfl (lv_at hl 0 rfl) ?_
      refine lv_iload_n hx hb dL_law_486 rfl (lv_at hl 3 rfl) ?_
      refine lv_iconst (v := 2) hx hb dL_law_487 (by decide) ?_
      refine lv_iadd hx hb dL_law_488 ?_
      refine va_sld hx hb hX hbl hbA X.2.2.2.1 i2 dL_law_489 ?_
      refine lv_aload_n hx hb dL_law_490 rfl (lv_at hl 0 rfl) ?_
      refine lv_iload_n hx hb dL_law_491 rfl (lv_at hl 3 rfl) ?_
      refine lv_iconst (v := 3) hx hb dL_law_492 (by decide) ?_
      refine lv_iadd hx hb dL_law_493 ?_
      refine va_sld hx hb hX hbl hbA X.2.2.2.1 i3 dL_law_494 ?_
      refine hm_vi (As := [.int (xs (nI i + 1).toNatClampNeg), .int (xs (nI i + 2).toNatClampNeg), .int (xs (nI i + 3).toNatClampNeg)]) S X mw_X8_blank hw_5_117 (c_X8_blank l g b9 A9 Z9 (xs (nI i + 1).toNatClampNeg) (xs (nI i + 2).toNatClampNeg) (xs (nI i + 3).toNatClampNeg) q9 hq9) hm_lawR (ws' := (hm_wHM g a R (hm_up Z 0 q.2.2.2.2.2.2.2.2.2.2.2.2.2.2.2.2.2.2.2.2.2) ScR SeR SeA (hm_up (hm_up (hm_up (hm_up (hm_up LeR 0 q.2.2.2.2.1) 1 q.2.2.2.2.2.1) 2 q.2.2.2.2.2.2.1) 3 q.2.2.2.2.2.2.2.1) 4 q.2.2.2.2.2.2.2.2.1) (hm_up (hm_up (hm_up (hm_up LeZ 0 q.2.2.2.2.2.2.2.2.2.1) 1 q.2.2.2.2.2.2.2.2.2.2.1) 2 q.2.2.2.2.2.2.2.2.2.2.2.1) 3 q.2.2.2.2.2.2.2.2.2.2.2.2.1) (hm_up (hm_up (hm_up BrA 0 q.2.1) 1 q.2.2.1) 2 q.2.2.2.1) (hm_up (hm_up (hm_up (hm_up (hm_up (hm_up ShR 0 q.2.2.2.2.2.2.2.2.2.2.2.2.2.1) 1 q.2.2.2.2.2.2.2.2.2.2.2.2.2.2.1) 2 q.2.2.2.2.2.2.2.2.2.2.2.2.2.2.2.1) 3 q.2.2.2.2.2.2.2.2.2.2.2.2.2.2.2.2.1) 4 q.2.2.2.2.2.2.2.2.2.2.2.2.2.2.2.2.2.1) 5 q.2.2.2.2.2.2.2.2.2.2.2.2.2.2.2.2.2.2.1) (hm_up (hm_up ShZ 0 q.2.2.2.2.2.2.2.2.2.2.2.2.2.2.2.2.2.2.2.1) 1 q.2.2.2.2.2.2.2.2.2.2.2.2.2.2.2.2.2.2.2.2.1) SuA SuJ ++ hm_wMM g b9 (hm_up (hm_up (hm_up (hm_up (hm_up (hm_up (hm_up (hm_up (hm_up (hm_up A9 14 q9.2.1) 15 q9.2.2.1) 16 q9.2.2.2.1) 17 q9.2.2.2.2.1) 18 q9.2.2.2.2.2.1) 19 q9.2.2.2.2.2.2.1) 20 q9.2.2.2.2.2.2.2.1) 21 q9.2.2.2.2.2.2.2.2.1) 22 q9.2.2.2.2.2.2.2.2.2.1) 23 q9.2.2.2.2.2.2.2.2.2.2.1) (hm_up (hm_up Z9 7 q9.2.2.2.2.2.2.2.2.2.2.2.1) 8 q9.2.2.2.2.2.2.2.2.2.2.2.2))) hm_lawR rfl rfl rfl ⟨rfl, rfl, Nat.le_of_ble_eq_true rfl, Nat.le_of_ble_eq_true rfl⟩ rfl hl.1 rfl (Nat.le_of_ble_eq_true rfl) dL_law_495 ⟨Nat.le_of_ble_eq_true rfl, Nat.le_of_ble_eq_true rfl⟩ (fun H locs X => ?_)
      refine lv_icmp_eq (tgt := 756) hx hb dL_law_498 (by decide) (fun _ => ?_) (fun hne => absurd eq hne)
      exact hgo _ _ _ _ _ _ _ _ _ _ _ _ _ _ hRel _ _ X _ hl
    by_cases c32_13 : sw = 13
    · refine hm_tabIn (off := 471) (tgt := 503) (k := 13) hx hb dL_law_32 c32_13 (by decide) (by decide) (by decide) rfl (by decide) ?_
      obtain ⟨q, q9, hq, hq9, eq, hRel⟩ := st13 _ _ _ _ _ _ _ _ _ _ _ _ _ _ hRel (xs (nI i + 1).toNatClampNeg) (xs (nI i + 2).toNatClampNeg)
      refine lv_aload_n hx hb dL_law_503 rfl (lv_at hl 1 rfl) ?_
      refine lv_aload_n hx hb dL_law_504 rfl (lv_at hl 0 rfl) ?_
      refine lv_iload_n hx hb dL_law_505 rfl (lv_at hl 3 rfl) ?_
      refine lv_iconst (v := 1) hx hb dL_law_506 (by decide) ?_
      refine lv_iadd hx hb dL_law_507 ?_
      refine va_sld hx hb hX hbl hbA X.2.2.2.1 i1 dL_law_508 ?_
      refine lv_aload_n hx hb dL_law_509 rfl (lv_at hl 0 rfl) ?_
      refine lv_iload_n hx hb dL_law_510 rfl (lv_at hl 3 rfl) ?_
      refine lv_iconst (v := 2) hx hb dL_law_511 (by decide) ?_
      refine lv_iadd hx hb dL_law_512 ?_
      refine va_sld hx hb hX hbl hbA X.2.2.2.1 i2 dL_law_513 ?_
      refine hm_vi (As := [.int (xs (nI i + 1).toNatClampNeg), .int (xs (nI i + 2).toNatClampNeg)]) S X mw_X7_leftOf hw_3_189 (c_X7_leftOf l g a R Z ScR SeR SeA LeR LeZ BrA ShR ShZ SuA SuJ (xs (nI i + 1).toNatClampNeg) (xs (nI i + 2).toNatClampNeg) q hq) hm_lawL (ws' := (hm_wHM g a R (hm_up Z 0 q.2.2.2.2.2.2.2.2.2.2.2.2.2.2.2.2.2.2.2.2.2) ScR SeR SeA (hm_up (hm_up (hm_up (hm_up (hm_up LeR 0 q.2.2.2.2.1) 1 q.2.2.2.2.2.1) 2 q.2.2.2.2.2.2.1) 3 q.2.2.2.2.2.2.2.1) 4 q.2.2.2.2.2.2.2.2.1) (hm_up (hm_up (hm_up (hm_up LeZ 0 q.2.2.2.2.2.2.2.2.2.1) 1 q.2.2.2.2.2.2.2.2.2.2.1) 2 q.2.2.2.2.2.2.2.2.2.2.2.1) 3 q.2.2.2.2.2.2.2.2.2.2.2.2.1) (hm_up (hm_up (hm_up BrA 0 q.2.1) 1 q.2.2.1) 2 q.2.2.2.1) (hm_up (hm_up (hm_up (hm_up (hm_up (hm_up ShR 0 q.2.2.2.2.2.2.2.2.2.2.2.2.2.1) 1 q.2.2.2.2.2.2.2.2.2.2.2.2.2.2.1) 2 q.2.2.2.2.2.2.2.2.2.2.2.2.2.2.2.1) 3 q.2.2.2.2.2.2.2.2.2.2.2.2.2.2.2.2.1) 4 q.2.2.2.2.2.2.2.2.2.2.2.2.2.2.2.2.2.1) 5 q.2.2.2.2.2.2.2.2.2.2.2.2.2.2.2.2.2.2.1) (hm_up (hm_up ShZ 0 q.2.2.2.2.2.2.2.2.2.2.2.2.2.2.2.2.2.2.2.1) 1 q.2.2.2.2.2.2.2.2.2.2.2.2.2.2.2.2.2.2.2.2.1) SuA SuJ ++ hm_wMM g b9 A9 Z9)) hm_lawL rfl rfl rfl ⟨rfl, rfl, Nat.le_of_ble_eq_true rfl, Nat.le_of_ble_eq_true rfl⟩ rfl hl.1 rfl (Nat.le_of_ble_eq_true rfl) dL_law_514 ⟨Nat.le_of_ble_eq_true rfl, Nat.le_of_ble_eq_true rfl⟩ (fun H locs X => ?_)
      refine lv_aload_n hx hb dL_law_517 rfl (lv_at hl 2 rfl) ?_
      refine lv_aload_n hx hb dL_law_518 rfl (lv_at hl 0 rfl) ?_
      refine lv_iload_n hx hb dL_law_519 rfl (lv_at hl 3 rfl) ?_
      refine lv_iconst (v := 1) hx hb dL_law_520 (by decide) ?_
      refine lv_iadd hx hb dL_law_521 ?_
      refine va_sld hx hb hX hbl hbA X.2.2.2.1 i1 dL_law_522 ?_
      refine lv_aload_n hx hb dL_law_523 rfl (lv_at hl 0 rfl) ?_
      refine lv_iload_n hx hb dL_law_524 rfl (lv_at hl 3 rfl) ?_
      refine lv_iconst (v := 2) hx hb dL_law_525 (by decide) ?_
      refine lv_iadd hx hb dL_law_526 ?_
      refine va_sld hx hb hX hbl hbA X.2.2.2.1 i2 dL_law_527 ?_
      refine hm_vi (As := [.int (xs (nI i + 1).toNatClampNeg), .int (xs (nI i + 2).toNatClampNeg)]) S X mw_X8_leftOf hw_5_121 (c_X8_leftOf l g b9 A9 Z9 (xs (nI i + 1).toNatClampNeg) (xs (nI i + 2).toNatClampNeg) q9 hq9) hm_lawR (ws' := (hm_wHM g a R (hm_up Z 0 q.2.2.2.2.2.2.2.2.2.2.2.2.2.2.2.2.2.2.2.2.2) ScR SeR SeA (hm_up (hm_up (hm_up (hm_up (hm_up LeR 0 q.2.2.2.2.1) 1 q.2.2.2.2.2.1) 2 q.2.2.2.2.2.2.1) 3 q.2.2.2.2.2.2.2.1) 4 q.2.2.2.2.2.2.2.2.1) (hm_up (hm_up (hm_up (hm_up LeZ 0 q.2.2.2.2.2.2.2.2.2.1) 1 q.2.2.2.2.2.2.2.2.2.2.1) 2 q.2.2.2.2.2.2.2.2.2.2.2.1) 3 q.2.2.2.2.2.2.2.2.2.2.2.2.1) (hm_up (hm_up (hm_up BrA 0 q.2.1) 1 q.2.2.1) 2 q.2.2.2.1) (hm_up (hm_up (hm_up (hm_up (hm_up (hm_up ShR 0 q.2.2.2.2.2.2.2.2.2.2.2.2.2.1) 1 q.2.2.2.2.2.2.2.2.2.2.2.2.2.2.1) 2 q.2.2.2.2.2.2.2.2.2.2.2.2.2.2.2.1) 3 q.2.2.2.2.2.2.2.2.2.2.2.2.2.2.2.2.1) 4 q.2.2.2.2.2.2.2.2.2.2.2.2.2.2.2.2.2.1) 5 q.2.2.2.2.2.2.2.2.2.2.2.2.2.2.2.2.2.2.1) (hm_up (hm_up ShZ 0 q.2.2.2.2.2.2.2.2.2.2.2.2.2.2.2.2.2.2.2.1) 1 q.2.2.2.2.2.2.2.2.2.2.2.2.2.2.2.2.2.2.2.2.1) SuA SuJ ++ hm_wMM g b9 (hm_up A9 14 q9.2) Z9)) hm_lawR rfl rfl rfl ⟨rfl, rfl, Nat.le_of_ble_eq_true rfl, Nat.le_of_ble_eq_true rfl⟩ rfl hl.1 rfl (Nat.le_of_ble_eq_true rfl) dL_law_528 ⟨Nat.le_of_ble_eq_true rfl, Nat.le_of_ble_eq_true rfl⟩ (fun H locs X => ?_)
      refine lv_icmp_eq (tgt := 756) hx hb dL_law_531 (by decide) (fun _ => ?_) (fun hne => absurd eq hne)
      exact hgo _ _ _ _ _ _ _ _ _ _ _ _ _ _ hRel _ _ X _ hl
    by_cases c32_14 : sw = 14
    · refine hm_tabIn (off := 504) (tgt := 536) (k := 14) hx hb dL_law_32 c32_14 (by decide) (by decide) (by decide) rfl (by decide) ?_
      obtain ⟨q, q9, hq, hq9, eq, hRel⟩ := st14 _ _ _ _ _ _ _ _ _ _ _ _ _ _ hRel (xs (nI i + 1).toNatClampNeg)
      refine lv_aload_n hx hb dL_law_536 rfl (lv_at hl 1 rfl) ?_
      refine lv_aload_n hx hb dL_law_537 rfl (lv_at hl 0 rfl) ?_
      refine lv_iload_n hx hb dL_law_538 rfl (lv_at hl 3 rfl) ?_
      refine lv_iconst (v := 1) hx hb dL_law_539 (by decide) ?_
      refine lv_iadd hx hb dL_law_540 ?_
      refine va_sld hx hb hX hbl hbA X.2.2.2.1 i1 dL_law_541 ?_
      refine hm_vi (As := [.int (xs (nI i + 1).toNatClampNeg)]) S X mw_X7_puts hw_3_194 (c_X7_puts l g a R Z ScR SeR SeA LeR LeZ BrA ShR ShZ SuA SuJ (xs (nI i + 1).toNatClampNeg) q hq) hm_lawL (ws' := (hm_wHM g a (hm_up R 1 q.2) Z ScR SeR SeA LeR LeZ BrA ShR ShZ SuA SuJ ++ hm_wMM g b9 A9 Z9)) hm_lawL rfl rfl rfl ⟨rfl, rfl, Nat.le_of_ble_eq_true rfl, Nat.le_of_ble_eq_true rfl⟩ rfl hl.1 rfl (Nat.le_of_ble_eq_true rfl) dL_law_542 ⟨Nat.le_of_ble_eq_true rfl, Nat.le_of_ble_eq_true rfl⟩ (fun H locs X => ?_)
      refine lv_aload_n hx hb dL_law_545 rfl (lv_at hl 2 rfl) ?_
      refine lv_aload_n hx hb dL_law_546 rfl (lv_at hl 0 rfl) ?_
      refine lv_iload_n hx hb dL_law_547 rfl (lv_at hl 3 rfl) ?_
      refine lv_iconst (v := 1) hx hb dL_law_548 (by decide) ?_
      refine lv_iadd hx hb dL_law_549 ?_
      refine va_sld hx hb hX hbl hbA X.2.2.2.1 i1 dL_law_550 ?_
      refine hm_vi (As := [.int (xs (nI i + 1).toNatClampNeg)]) S X mw_X8_puts hw_5_126 (c_X8_puts l g b9 A9 Z9 (xs (nI i + 1).toNatClampNeg) q9 hq9) hm_lawR (ws' := (hm_wHM g a (hm_up R 1 q.2) Z ScR SeR SeA LeR LeZ BrA ShR ShZ SuA SuJ ++ hm_wMM g b9 (hm_up A9 11 q9.2.1) (hm_up Z9 5 q9.2.2))) hm_lawR rfl rfl rfl ⟨rfl, rfl, Nat.le_of_ble_eq_true rfl, Nat.le_of_ble_eq_true rfl⟩ rfl hl.1 rfl (Nat.le_of_ble_eq_true rfl) dL_law_551 ⟨Nat.le_of_ble_eq_true rfl, Nat.le_of_ble_eq_true rfl⟩ (fun H locs X => ?_)
      refine lv_icmp_eq (tgt := 756) hx hb dL_law_554 (by decide) (fun _ => ?_) (fun hne => absurd eq hne)
      exact hgo _ _ _ _ _ _ _ _ _ _ _ _ _ _ hRel _ _ X _ hl
    by_cases c32_15 : sw = 15
    · refine hm_tabIn (off := 527) (tgt := 559) (k := 15) hx hb dL_law_32 c32_15 (by decide) (by decide) (by decide) rfl (by decide) ?_
      obtain ⟨q, q9, hq, hq9, eq, hRel⟩ := st15 _ _ _ _ _ _ _ _ _ _ _ _ _ _ hRel ()
      refine lv_aload_n hx hb dL_law_559 rfl (lv_at hl 1 rfl) ?_
      refine hm_vi (As := []) S X mw_X7_takes hw_3_202 (c_X7_takes l g a R Z ScR SeR SeA LeR LeZ BrA ShR ShZ SuA SuJ  q hq) hm_lawL (ws' := (hm_wHM g a (hm_up R 1 q.2) Z ScR SeR SeA LeR LeZ BrA ShR ShZ SuA SuJ ++ hm_wMM g b9 A9 Z9)) hm_lawL rfl rfl rfl ⟨rfl, rfl, Nat.le_of_ble_eq_true rfl, Nat.le_of_ble_eq_true rfl⟩ rfl hl.1 rfl (Nat.le_of_ble_eq_true rfl) dL_law_560 ⟨Nat.le_of_ble_eq_true rfl, Nat.le_of_ble_eq_true rfl⟩ (fun H locs X => ?_)
      refine lv_aload_n hx hb dL_law_563 rfl (lv_at hl 2 rfl) ?_
      refine hm_vi (As := []) S X mw_X8_takes hw_5_130 (c_X8_takes l g b9 A9 Z9  q9 hq9) hm_lawR (ws' := (hm_wHM g a (hm_up R 1 q.2) Z ScR SeR SeA LeR LeZ BrA ShR ShZ SuA SuJ ++ hm_wMM g b9 A9 (hm_up Z9 5 q9.2))) hm_lawR rfl rfl rfl ⟨rfl, rfl, Nat.le_of_ble_eq_true rfl, Nat.le_of_ble_eq_true rfl⟩ rfl hl.1 rfl (Nat.le_of_ble_eq_true rfl) dL_law_564 ⟨Nat.le_of_ble_eq_true rfl, Nat.le_of_ble_eq_true rfl⟩ (fun H locs X => ?_)
      refine lv_icmp_eq (tgt := 756) hx hb dL_law_567 (by decide) (fun _ => ?_) (fun hne => absurd eq hne)
      exact hgo _ _ _ _ _ _ _ _ _ _ _ _ _ _ hRel _ _ X _ hl
    by_cases c32_16 : sw = 16
    · refine hm_tabIn (off := 540) (tgt := 572) (k := 16) hx hb dL_law_32 c32_16 (by decide) (by decide) (by decide) rfl (by decide) ?_
      obtain ⟨q, q9, hq, hq9, eq, hRel⟩ := st16 _ _ _ _ _ _ _ _ _ _ _ _ _ _ hRel (xs (nI i + 1).toNatClampNeg)
      refine lv_aload_n hx hb dL_law_572 rfl (lv_at hl 1 rfl) ?_
      refine lv_aload_n hx hb dL_law_573 rfl (lv_at hl 0 rfl) ?_
      refine lv_iload_n hx hb dL_law_574 rfl (lv_at hl 3 rfl) ?_
      refine lv_iconst (v := 1) hx hb dL_law_575 (by decide) ?_
      refine lv_iadd hx hb dL_law_576 ?_
      refine va_sld hx hb hX hbl hbA X.2.2.2.1 i1 dL_law_577 ?_
      refine hm_vi (As := [.int (xs (nI i + 1).toNatClampNeg)]) S X mw_X7_judged hw_3_207 (c_X7_judged l g a R Z ScR SeR SeA LeR LeZ BrA ShR ShZ SuA SuJ (xs (nI i + 1).toNatClampNeg) q hq) hm_lawL (ws' := (hm_wHM g a R (hm_up Z 0 q.2.2.2.2.2.2.2.2.2.2.2.2.2.2.2.2.2.2.2.2.2) ScR SeR SeA (hm_up (hm_up (hm_up (hm_up (hm_up LeR 0 q.2.2.2.2.1) 1 q.2.2.2.2.2.1) 2 q.2.2.2.2.2.2.1) 3 q.2.2.2.2.2.2.2.1) 4 q.2.2.2.2.2.2.2.2.1) (hm_up (hm_up (hm_up (hm_up LeZ 0 q.2.2.2.2.2.2.2.2.2.1) 1 q.2.2.2.2.2.2.2.2.2.2.1) 2 q.2.2.2.2.2.2.2.2.2.2.2.1) 3 q.2.2.2.2.2.2.2.2.2.2.2.2.1) (hm_up (hm_up (hm_up BrA 0 q.2.1) 1 q.2.2.1) 2 q.2.2.2.1) (hm_up (hm_up (hm_up (hm_up (hm_up (hm_up ShR 0 q.2.2.2.2.2.2.2.2.2.2.2.2.2.1) 1 q.2.2.2.2.2.2.2.2.2.2.2.2.2.2.1) 2 q.2.2.2.2.2.2.2.2.2.2.2.2.2.2.2.1) 3 q.2.2.2.2.2.2.2.2.2.2.2.2.2.2.2.2.1) 4 q.2.2.2.2.2.2.2.2.2.2.2.2.2.2.2.2.2.1) 5 q.2.2.2.2.2.2.2.2.2.2.2.2.2.2.2.2.2.2.1) (hm_up (hm_up ShZ 0 q.2.2.2.2.2.2.2.2.2.2.2.2.2.2.2.2.2.2.2.1) 1 q.2.2.2.2.2.2.2.2.2.2.2.2.2.2.2.2.2.2.2.2.1) SuA SuJ ++ hm_wMM g b9 A9 Z9)) hm_lawL rfl rfl rfl ⟨rfl, rfl, Nat.le_of_ble_eq_true rfl, Nat.le_of_ble_eq_true rfl⟩ rfl hl.1 rfl (Nat.le_of_ble_eq_true rfl) dL_law_578 ⟨Nat.le_of_ble_eq_true rfl, Nat.le_of_ble_eq_true rfl⟩ (fun H locs X => ?_)
      refine lv_aload_n hx hb dL_law_581 rfl (lv_at hl 2 rfl) ?_
      refine lv_aload_n hx hb dL_law_582 rfl (lv_at hl 0 rfl) ?_
      refine lv_iload_n hx hb dL_law_583 rfl (lv_at hl 3 rfl) ?_
      refine lv_iconst (v := 1) hx hb dL_law_584 (by decide) ?_
      refine lv_iadd hx hb dL_law_585 ?_
      refine va_sld hx hb hX hbl hbA X.2.2.2.1 i1 dL_law_586 ?_
      refine hm_vi (As := [.int (xs (nI i + 1).toNatClampNeg)]) S X mw_X8_judged hw_5_134 (c_X8_judged l g b9 A9 Z9 (xs (nI i + 1).toNatClampNeg) q9 hq9) hm_lawR (ws' := (hm_wHM g a R (hm_up Z 0 q.2.2.2.2.2.2.2.2.2.2.2.2.2.2.2.2.2.2.2.2.2) ScR SeR SeA (hm_up (hm_up (hm_up (hm_up (hm_up LeR 0 q.2.2.2.2.1) 1 q.2.2.2.2.2.1) 2 q.2.2.2.2.2.2.1) 3 q.2.2.2.2.2.2.2.1) 4 q.2.2.2.2.2.2.2.2.1) (hm_up (hm_up (hm_up (hm_up LeZ 0 q.2.2.2.2.2.2.2.2.2.1) 1 q.2.2.2.2.2.2.2.2.2.2.1) 2 q.2.2.2.2.2.2.2.2.2.2.2.1) 3 q.2.2.2.2.2.2.2.2.2.2.2.2.1) (hm_up (hm_up (hm_up BrA 0 q.2.1) 1 q.2.2.1) 2 q.2.2.2.1) (hm_up (hm_up (hm_up (hm_up (hm_up (hm_up ShR 0 q.2.2.2.2.2.2.2.2.2.2.2.2.2.1) 1 q.2.2.2.2.2.2.2.2.2.2.2.2.2.2.1) 2 q.2.2.2.2.2.2.2.2.2.2.2.2.2.2.2.1) 3 q.2.2.2.2.2.2.2.2.2.2.2.2.2.2.2.2.1) 4 q.2.2.2.2.2.2.2.2.2.2.2.2.2.2.2.2.2.1) 5 q.2.2.2.2.2.2.2.2.2.2.2.2.2.2.2.2.2.2.1) (hm_up (hm_up ShZ 0 q.2.2.2.2.2.2.2.2.2.2.2.2.2.2.2.2.2.2.2.1) 1 q.2.2.2.2.2.2.2.2.2.2.2.2.2.2.2.2.2.2.2.2.1) SuA SuJ ++ hm_wMM g b9 (hm_up (hm_up (hm_up (hm_up (hm_up A9 14 q9.2.1) 15 q9.2.2.1) 16 q9.2.2.2.1) 17 q9.2.2.2.2.1) 18 q9.2.2.2.2.2.1) (hm_up Z9 7 q9.2.2.2.2.2.2))) hm_lawR rfl rfl rfl ⟨rfl, rfl, Nat.le_of_ble_eq_true rfl, Nat.le_of_ble_eq_true rfl⟩ rfl hl.1 rfl (Nat.le_of_ble_eq_true rfl) dL_law_587 ⟨Nat.le_of_ble_eq_true rfl, Nat.le_of_ble_eq_true rfl⟩ (fun H locs X => ?_)
      refine lv_icmp_eq (tgt := 756) hx hb dL_law_590 (by decide) (fun _ => ?_) (fun hne => absurd eq hne)
      exact hgo _ _ _ _ _ _ _ _ _ _ _ _ _ _ hRel _ _ X _ hl
    by_cases c32_17 : sw = 17
    · refine hm_tabIn (off := 563) (tgt := 595) (k := 17) hx hb dL_law_32 c32_17 (by decide) (by decide) (by decide) rfl (by decide) ?_
      obtain ⟨q, q9, hq, hq9, eq, hRel⟩ := st17 _ _ _ _ _ _ _ _ _ _ _ _ _ _ hRel (xs (nI i + 1).toNatClampNeg)
      refine lv_aload_n hx hb dL_law_595 rfl (lv_at hl 1 rfl) ?_
      refine lv_aload_n hx hb dL_law_596 rfl (lv_at hl 0 rfl) ?_
      refine lv_iload_n hx hb dL_law_597 rfl (lv_at hl 3 rfl) ?_
      refine lv_iconst (v := 1) hx hb dL_law_598 (by decide) ?_
      refine lv_iadd hx hb dL_law_599 ?_
      refine va_sld hx hb hX hbl hbA X.2.2.2.1 i1 dL_law_600 ?_
      refine hm_vi (As := [.int (xs (nI i + 1).toNatClampNeg)]) S X mw_X7_alike hw_3_219 (c_X7_alike l g a R Z ScR SeR SeA LeR LeZ BrA ShR ShZ SuA SuJ (xs (nI i + 1).toNatClampNeg) q hq) hm_lawL (ws' := (hm_wHM g a R (hm_up (hm_up Z 0 q.2.2.2.2.2.2.2.2.2.2.2.2.2.2.2.2.2.2.2.2.2.2.2.2.1) 1 q.2.2.2.2.2.2.2.2.2.2.2.2.2.2.2.2.2.2.2.2.2.2.2.2.2) ScR SeR SeA (hm_up (hm_up (hm_up (hm_up (hm_up LeR 0 q.2.2.2.2.1) 1 q.2.2.2.2.2.1) 2 q.2.2.2.2.2.2.1) 3 q.2.2.2.2.2.2.2.1) 4 q.2.2.2.2.2.2.2.2.1) (hm_up (hm_up (hm_up (hm_up LeZ 0 q.2.2.2.2.2.2.2.2.2.1) 1 q.2.2.2.2.2.2.2.2.2.2.1) 2 q.2.2.2.2.2.2.2.2.2.2.2.1) 3 q.2.2.2.2.2.2.2.2.2.2.2.2.1) (hm_up (hm_up (hm_up BrA 0 q.2.1) 1 q.2.2.1) 2 q.2.2.2.1) (hm_up (hm_up (hm_up (hm_up (hm_up (hm_up ShR 0 q.2.2.2.2.2.2.2.2.2.2.2.2.2.1) 1 q.2.2.2.2.2.2.2.2.2.2.2.2.2.2.1) 2 q.2.2.2.2.2.2.2.2.2.2.2.2.2.2.2.1) 3 q.2.2.2.2.2.2.2.2.2.2.2.2.2.2.2.2.1) 4 q.2.2.2.2.2.2.2.2.2.2.2.2.2.2.2.2.2.1) 5 q.2.2.2.2.2.2.2.2.2.2.2.2.2.2.2.2.2.2.1) (hm_up (hm_up ShZ 0 q.2.2.2.2.2.2.2.2.2.2.2.2.2.2.2.2.2.2.2.1) 1 q.2.2.2.2.2.2.2.2.2.2.2.2.2.2.2.2.2.2.2.2.1) (hm_up (hm_up SuA 0 q.2.2.2.2.2.2.2.2.2.2.2.2.2.2.2.2.2.2.2.2.2.1) 1 q.2.2.2.2.2.2.2.2.2.2.2.2.2.2.2.2.2.2.2.2.2.2.1) (hm_up SuJ 0 q.2.2.2.2.2.2.2.2.2.2.2.2.2.2.2.2.2.2.2.2.2.2.2.1) ++ hm_wMM g b9 A9 Z9)) hm_lawL rfl rfl rfl ⟨rfl, rfl, Nat.le_of_ble_eq_true rfl, Nat.le_of_ble_eq_true rfl⟩ rfl hl.1 rfl (Nat.le_of_ble_eq_true rfl) dL_law_601 ⟨Nat.le_of_ble_eq_true rfl, Nat.le_of_ble_eq_true rfl⟩ (fun H locs X => ?_)
      refine lv_aload_n hx hb dL_law_604 rfl (lv_at hl 2 rfl) ?_
      refine lv_aload_n hx hb dL_law_605 rfl (lv_at hl 0 rfl) ?_
      refine lv_iload_n hx hb dL_law_606 rfl (lv_at hl 3 rfl) ?_
      refine lv_iconst (v := 1) hx hb dL_law_607 (by decide) ?_
      refine lv_iadd hx hb dL_law_608 ?_
      refine va_sld hx hb hX hbl hbA X.2.2.2.1 i1 dL_law_609 ?_
      refine hm_vi (As := [.int (xs (nI i + 1).toNatClampNeg)]) S X mw_X8_alike hw_5_138 (c_X8_alike l g b9 A9 Z9 (xs (nI i + 1).toNatClampNeg) q9 hq9) hm_lawR (ws' := (hm_wHM g a R (hm_up (hm_up Z 0 q.2.2.2.2.2.2.2.2.2.2.2.2.2.2.2.2.2.2.2.2.2.2.2.2.1) 1 q.2.2.2.2.2.2.2.2.2.2.2.2.2.2.2.2.2.2.2.2.2.2.2.2.2) ScR SeR SeA (hm_up (hm_up (hm_up (hm_up (hm_up LeR 0 q.2.2.2.2.1) 1 q.2.2.2.2.2.1) 2 q.2.2.2.2.2.2.1) 3 q.2.2.2.2.2.2.2.1) 4 q.2.2.2.2.2.2.2.2.1) (hm_up (hm_up (hm_up (hm_up LeZ 0 q.2.2.2.2.2.2.2.2.2.1) 1 q.2.2.2.2.2.2.2.2.2.2.1) 2 q.2.2.2.2.2.2.2.2.2.2.2.1) 3 q.2.2.2.2.2.2.2.2.2.2.2.2.1) (hm_up (hm_up (hm_up BrA 0 q.2.1) 1 q.2.2.1) 2 q.2.2.2.1) (hm_up (hm_up (hm_up (hm_up (hm_up (hm_up ShR 0 q.2.2.2.2.2.2.2.2.2.2.2.2.2.1) 1 q.2.2.2.2.2.2.2.2.2.2.2.2.2.2.1) 2 q.2.2.2.2.2.2.2.2.2.2.2.2.2.2.2.1) 3 q.2.2.2.2.2.2.2.2.2.2.2.2.2.2.2.2.1) 4 q.2.2.2.2.2.2.2.2.2.2.2.2.2.2.2.2.2.1) 5 q.2.2.2.2.2.2.2.2.2.2.2.2.2.2.2.2.2.2.1) (hm_up (hm_up ShZ 0 q.2.2.2.2.2.2.2.2.2.2.2.2.2.2.2.2.2.2.2.1) 1 q.2.2.2.2.2.2.2.2.2.2.2.2.2.2.2.2.2.2.2.2.1) (hm_up (hm_up SuA 0 q.2.2.2.2.2.2.2.2.2.2.2.2.2.2.2.2.2.2.2.2.2.1) 1 q.2.2.2.2.2.2.2.2.2.2.2.2.2.2.2.2.2.2.2.2.2.2.1) (hm_up SuJ 0 q.2.2.2.2.2.2.2.2.2.2.2.2.2.2.2.2.2.2.2.2.2.2.2.1) ++ hm_wMM g b9 (hm_up (hm_up (hm_up (hm_up (hm_up (hm_up A9 14 q9.2.1) 15 q9.2.2.1) 16 q9.2.2.2.1) 17 q9.2.2.2.2.1) 18 q9.2.2.2.2.2.1) 24 q9.2.2.2.2.2.2.1) (hm_up (hm_up (hm_up (hm_up Z9 7 q9.2.2.2.2.2.2.2.2.2.1) 9 q9.2.2.2.2.2.2.2.2.2.2) 10 q9.2.2.2.2.2.2.2.1) 11 q9.2.2.2.2.2.2.2.2.1))) hm_lawR rfl rfl rfl ⟨rfl, rfl, Nat.le_of_ble_eq_true rfl, Nat.le_of_ble_eq_true rfl⟩ rfl hl.1 rfl (Nat.le_of_ble_eq_true rfl) dL_law_610 ⟨Nat.le_of_ble_eq_true rfl, Nat.le_of_ble_eq_true rfl⟩ (fun H locs X => ?_)
      refine lv_icmp_eq (tgt := 756) hx hb dL_law_613 (by decide) (fun _ => ?_) (fun hne => absurd eq hne)
      exact hgo _ _ _ _ _ _ _ _ _ _ _ _ _ _ hRel _ _ X _ hl
    by_cases c32_18 : sw = 18
    · refine hm_tabIn (off := 586) (tgt := 618) (k := 18) hx hb dL_law_32 c32_18 (by decide) (by decide) (by decide) rfl (by decide) ?_
      obtain ⟨q, q9, hq, hq9, eq, hRel⟩ := st18 _ _ _ _ _ _ _ _ _ _ _ _ _ _ hRel (xs (nI i + 1).toNatClampNeg) (xs (nI i + 2).toNatClampNeg)
      refine lv_aload_n hx hb dL_law_618 rfl (lv_at hl 1 rfl) ?_
      refine lv_aload_n hx hb dL_law_619 rfl (lv_at hl 0 rfl) ?_
      refine lv_iload_n hx hb dL_law_620 rfl (lv_at hl 3 rfl) ?_
      refine lv_iconst (v := 1) hx hb dL_law_621 (by decide) ?_
      refine lv_iadd hx hb dL_law_622 ?_
      refine va_sld hx hb hX hbl hbA X.2.2.2.1 i1 dL_law_623 ?_
      refine lv_aload_n hx hb dL_law_624 rfl (lv_at hl 0 rfl) ?_
      refine lv_iload_n hx hb dL_law_625 rfl (lv_at hl 3 rfl) ?_
      refine lv_iconst (v := 2) hx hb dL_law_626 (by decide) ?_
      refine lv_iadd hx hb dL_law_627 ?_
      refine va_sld hx hb hX hbl hbA X.2.2.2.1 i2 dL_law_628 ?_
      refine hm_vi (As := [.int (xs (nI i + 1).toNatClampNeg), .int (xs (nI i + 2).toNatClampNeg)]) S X mw_X7_sees hw_4_9 (c_X7_sees l g a R Z ScR SeR SeA LeR LeZ BrA ShR ShZ SuA SuJ (xs (nI i + 1).toNatClampNeg) (xs (nI i + 2).toNatClampNeg) q hq) hm_lawL (ws' := (hm_wHM g a (hm_up (hm_up R 2 q.2.1) 3 q.2.2) Z ScR SeR SeA LeR LeZ BrA ShR ShZ SuA SuJ ++ hm_wMM g b9 A9 Z9)) hm_lawL rfl rfl rfl ⟨rfl, rfl, Nat.le_of_ble_eq_true rfl, Nat.le_of_ble_eq_true rfl⟩ rfl hl.1 rfl (Nat.le_of_ble_eq_true rfl) dL_law_629 ⟨Nat.le_of_ble_eq_true rfl, Nat.le_of_ble_eq_true rfl⟩ (fun H locs X => ?_)
      refine lv_aload_n hx hb dL_law_632 rfl (lv_at hl 2 rfl) ?_
      refine lv_aload_n hx hb dL_law_633 rfl (lv_at hl 0 rfl) ?_
      refine lv_iload_n hx hb dL_law_634 rfl (lv_at hl 3 rfl) ?_
      refine lv_iconst (v := 1) hx hb dL_law_635 (by decide) ?_
      refine lv_iadd hx hb dL_law_636 ?_
      refine va_sld hx hb hX hbl hbA X.2.2.2.1 i1 dL_law_637 ?_
      refine lv_aload_n hx hb dL_law_638 rfl (lv_at hl 0 rfl) ?_
      refine lv_iload_n hx hb dL_law_639 rfl (lv_at hl 3 rfl) ?_
      refine lv_iconst (v := 2) hx hb dL_law_640 (by decide) ?_
      refine lv_iadd hx hb dL_law_641 ?_
      refine va_sld hx hb hX hbl hbA X.2.2.2.1 i2 dL_law_642 ?_
      refine hm_vi (As := [.int (xs (nI i + 1).toNatClampNeg), .int (xs (nI i + 2).toNatClampNeg)]) S X mw_X8_sees hw_5_150 (c_X8_sees l g b9 A9 Z9 (xs (nI i + 1).toNatClampNeg) (xs (nI i + 2).toNatClampNeg) q9 hq9) hm_lawR (ws' := (hm_wHM g a (hm_up (hm_up R 2 q.2.1) 3 q.2.2) Z ScR SeR SeA LeR LeZ BrA ShR ShZ SuA SuJ ++ hm_wMM g b9 (hm_up (hm_up A9 12 q9.2.1) 13 q9.2.2.1) (hm_up Z9 6 q9.2.2.2))) hm_lawR rfl rfl rfl ⟨rfl, rfl, Nat.le_of_ble_eq_true rfl, Nat.le_of_ble_eq_true rfl⟩ rfl hl.1 rfl (Nat.le_of_ble_eq_true rfl) dL_law_643 ⟨Nat.le_of_ble_eq_true rfl, Nat.le_of_ble_eq_true rfl⟩ (fun H locs X => ?_)
      refine lv_icmp_eq (tgt := 756) hx hb dL_law_646 (by decide) (fun _ => ?_) (fun hne => absurd eq hne)
      exact hgo _ _ _ _ _ _ _ _ _ _ _ _ _ _ hRel _ _ X _ hl
    by_cases c32_19 : sw = 19
    · refine hm_tabIn (off := 619) (tgt := 651) (k := 19) hx hb dL_law_32 c32_19 (by decide) (by decide) (by decide) rfl (by decide) ?_
      obtain ⟨q, q9, hq, hq9, eq, hRel⟩ := st19 _ _ _ _ _ _ _ _ _ _ _ _ _ _ hRel ()
      refine lv_aload_n hx hb dL_law_651 rfl (lv_at hl 1 rfl) ?_
      refine hm_vi (As := []) S X mw_X7_forget hw_4_13 (c_X7_forget l g a R Z ScR SeR SeA LeR LeZ BrA ShR ShZ SuA SuJ  q hq) hm_lawL (ws' := (hm_wHM g a (hm_up (hm_up R 2 q.2.1) 3 q.2.2) Z ScR SeR SeA LeR LeZ BrA ShR ShZ SuA SuJ ++ hm_wMM g b9 A9 Z9)) hm_lawL rfl rfl rfl ⟨rfl, rfl, Nat.le_of_ble_eq_true rfl, Nat.le_of_ble_eq_true rfl⟩ rfl hl.1 rfl (Nat.le_of_ble_eq_true rfl) dL_law_652 ⟨Nat.le_of_ble_eq_true rfl, Nat.le_of_ble_eq_true rfl⟩ (fun H locs X => ?_)
      refine lv_aload_n hx hb dL_law_655 rfl (lv_at hl 2 rfl) ?_
      refine hm_vi (As := []) S X mw_X8_forget hw_5_154 (c_X8_forget l g b9 A9 Z9  q9 hq9) hm_lawR (ws' := (hm_wHM g a (hm_up (hm_up R 2 q.2.1) 3 q.2.2) Z ScR SeR SeA LeR LeZ BrA ShR ShZ SuA SuJ ++ hm_wMM g b9 A9 (hm_up Z9 6 q9.2))) hm_lawR rfl rfl rfl ⟨rfl, rfl, Nat.le_of_ble_eq_true rfl, Nat.le_of_ble_eq_true rfl⟩ rfl hl.1 rfl (Nat.le_of_ble_eq_true rfl) dL_law_656 ⟨Nat.le_of_ble_eq_true rfl, Nat.le_of_ble_eq_true rfl⟩ (fun H locs X => ?_)
      refine lv_icmp_eq (tgt := 756) hx hb dL_law_659 (by decide) (fun _ => ?_) (fun hne => absurd eq hne)
      exact hgo _ _ _ _ _ _ _ _ _ _ _ _ _ _ hRel _ _ X _ hl
    by_cases c32_20 : sw = 20
    · refine hm_tabIn (off := 632) (tgt := 664) (k := 20) hx hb dL_law_32 c32_20 (by decide) (by decide) (by decide) rfl (by decide) ?_
      obtain ⟨q, q9, hq, hq9, eq, hRel⟩ := st20 _ _ _ _ _ _ _ _ _ _ _ _ _ _ hRel (xs (nI i + 1).toNatClampNeg)
      refine lv_aload_n hx hb dL_law_664 rfl (lv_at hl 1 rfl) ?_
      refine lv_aload_n hx hb dL_law_665 rfl (lv_at hl 0 rfl) ?_
      refine lv_iload_n hx hb dL_law_666 rfl (lv_at hl 3 rfl) ?_
      refine lv_iconst (v := 1) hx hb dL_law_667 (by decide) ?_
      refine lv_iadd hx hb dL_law_668 ?_
      refine va_sld hx hb hX hbl hbA X.2.2.2.1 i1 dL_law_669 ?_
      refine hm_vi (As := [.int (xs (nI i + 1).toNatClampNeg)]) S X mw_X7_unseen hw_4_17 (c_X7_unseen l g a R Z ScR SeR SeA LeR LeZ BrA ShR ShZ SuA SuJ (xs (nI i + 1).toNatClampNeg) q hq) hm_lawL (ws' := (hm_wHM g a R (hm_up (hm_up Z 0 q.2.2.2.2.2.2.2.2.2.2.2.2.2.2.2.2.2.2.2.2.2.2.2.2.1) 1 q.2.2.2.2.2.2.2.2.2.2.2.2.2.2.2.2.2.2.2.2.2.2.2.2.2) ScR SeR SeA (hm_up (hm_up (hm_up (hm_up (hm_up LeR 0 q.2.2.2.2.1) 1 q.2.2.2.2.2.1) 2 q.2.2.2.2.2.2.1) 3 q.2.2.2.2.2.2.2.1) 4 q.2.2.2.2.2.2.2.2.1) (hm_up (hm_up (hm_up (hm_up LeZ 0 q.2.2.2.2.2.2.2.2.2.1) 1 q.2.2.2.2.2.2.2.2.2.2.1) 2 q.2.2.2.2.2.2.2.2.2.2.2.1) 3 q.2.2.2.2.2.2.2.2.2.2.2.2.1) (hm_up (hm_up (hm_up BrA 0 q.2.1) 1 q.2.2.1) 2 q.2.2.2.1) (hm_up (hm_up (hm_up (hm_up (hm_up (hm_up ShR 0 q.2.2.2.2.2.2.2.2.2.2.2.2.2.1) 1 q.2.2.2.2.2.2.2.2.2.2.2.2.2.2.1) 2 q.2.2.2.2.2.2.2.2.2.2.2.2.2.2.2.1) 3 q.2.2.2.2.2.2.2.2.2.2.2.2.2.2.2.2.1) 4 q.2.2.2.2.2.2.2.2.2.2.2.2.2.2.2.2.2.1) 5 q.2.2.2.2.2.2.2.2.2.2.2.2.2.2.2.2.2.2.1) (hm_up (hm_up ShZ 0 q.2.2.2.2.2.2.2.2.2.2.2.2.2.2.2.2.2.2.2.1) 1 q.2.2.2.2.2.2.2.2.2.2.2.2.2.2.2.2.2.2.2.2.1) (hm_up (hm_up SuA 0 q.2.2.2.2.2.2.2.2.2.2.2.2.2.2.2.2.2.2.2.2.2.1) 1 q.2.2.2.2.2.2.2.2.2.2.2.2.2.2.2.2.2.2.2.2.2.2.1) (hm_up SuJ 0 q.2.2.2.2.2.2.2.2.2.2.2.2.2.2.2.2.2.2.2.2.2.2.2.1) ++ hm_wMM g b9 A9 Z9)) hm_lawL rfl rfl rfl ⟨rfl, rfl, Nat.le_of_ble_eq_true rfl, Nat.le_of_ble_eq_true rfl⟩ rfl hl.1 rfl (Nat.le_of_ble_eq_true rfl) dL_law_670 ⟨Nat.le_of_ble_eq_true rfl, Nat.le_of_ble_eq_true rfl⟩ (fun H locs X => ?_)
      refine lv_aload_n hx hb dL_law_673 rfl (lv_at hl 2 rfl) ?_
      refine lv_aload_n hx hb dL_law_674 rfl (lv_at hl 0 rfl) ?_
      refine lv_iload_n hx hb dL_law_675 rfl (lv_at hl 3 rfl) ?_
      refine lv_iconst (v := 1) hx hb dL_law_676 (by decide) ?_
      refine lv_iadd hx hb dL_law_677 ?_
      refine va_sld hx hb hX hbl hbA X.2.2.2.1 i1 dL_law_678 ?_
      refine hm_vi (As := [.int (xs (nI i + 1).toNatClampNeg)]) S X mw_X8_unseen hw_5_158 (c_X8_unseen l g b9 A9 Z9 (xs (nI i + 1).toNatClampNeg) q9 hq9) hm_lawR (ws' := (hm_wHM g a R (hm_up (hm_up Z 0 q.2.2.2.2.2.2.2.2.2.2.2.2.2.2.2.2.2.2.2.2.2.2.2.2.1) 1 q.2.2.2.2.2.2.2.2.2.2.2.2.2.2.2.2.2.2.2.2.2.2.2.2.2) ScR SeR SeA (hm_up (hm_up (hm_up (hm_up (hm_up LeR 0 q.2.2.2.2.1) 1 q.2.2.2.2.2.1) 2 q.2.2.2.2.2.2.1) 3 q.2.2.2.2.2.2.2.1) 4 q.2.2.2.2.2.2.2.2.1) (hm_up (hm_up (hm_up (hm_up LeZ 0 q.2.2.2.2.2.2.2.2.2.1) 1 q.2.2.2.2.2.2.2.2.2.2.1) 2 q.2.2.2.2.2.2.2.2.2.2.2.1) 3 q.2.2.2.2.2.2.2.2.2.2.2.2.1) (hm_up (hm_up (hm_up BrA 0 q.2.1) 1 q.2.2.1) 2 q.2.2.2.1) (hm_up (hm_up (hm_up (hm_up (hm_up (hm_up ShR 0 q.2.2.2.2.2.2.2.2.2.2.2.2.2.1) 1 q.2.2.2.2.2.2.2.2.2.2.2.2.2.2.1) 2 q.2.2.2.2.2.2.2.2.2.2.2.2.2.2.2.1) 3 q.2.2.2.2.2.2.2.2.2.2.2.2.2.2.2.2.1) 4 q.2.2.2.2.2.2.2.2.2.2.2.2.2.2.2.2.2.1) 5 q.2.2.2.2.2.2.2.2.2.2.2.2.2.2.2.2.2.2.1) (hm_up (hm_up ShZ 0 q.2.2.2.2.2.2.2.2.2.2.2.2.2.2.2.2.2.2.2.1) 1 q.2.2.2.2.2.2.2.2.2.2.2.2.2.2.2.2.2.2.2.2.1) (hm_up (hm_up SuA 0 q.2.2.2.2.2.2.2.2.2.2.2.2.2.2.2.2.2.2.2.2.2.1) 1 q.2.2.2.2.2.2.2.2.2.2.2.2.2.2.2.2.2.2.2.2.2.2.1) (hm_up SuJ 0 q.2.2.2.2.2.2.2.2.2.2.2.2.2.2.2.2.2.2.2.2.2.2.2.1) ++ hm_wMM g b9 (hm_up (hm_up (hm_up (hm_up (hm_up A9 14 q9.2.1) 15 q9.2.2.1) 16 q9.2.2.2.1) 17 q9.2.2.2.2.1) 18 q9.2.2.2.2.2.1) (hm_up (hm_up (hm_up (hm_up Z9 7 q9.2.2.2.2.2.2.2.2.1) 9 q9.2.2.2.2.2.2.2.2.2) 10 q9.2.2.2.2.2.2.1) 11 q9.2.2.2.2.2.2.2.1))) hm_lawR rfl rfl rfl ⟨rfl, rfl, Nat.le_of_ble_eq_true rfl, Nat.le_of_ble_eq_true rfl⟩ rfl hl.1 rfl (Nat.le_of_ble_eq_true rfl) dL_law_679 ⟨Nat.le_of_ble_eq_true rfl, Nat.le_of_ble_eq_true rfl⟩ (fun H locs X => ?_)
      refine lv_icmp_eq (tgt := 756) hx hb dL_law_682 (by decide) (fun _ => ?_) (fun hne => absurd eq hne)
      exact hgo _ _ _ _ _ _ _ _ _ _ _ _ _ _ hRel _ _ X _ hl
    by_cases c32_21 : sw = 21
    · refine hm_tabIn (off := 655) (tgt := 687) (k := 21) hx hb dL_law_32 c32_21 (by decide) (by decide) (by decide) rfl (by decide) ?_
      obtain ⟨q, q9, hq, hq9, eq, hRel⟩ := st21 _ _ _ _ _ _ _ _ _ _ _ _ _ _ hRel (xs (nI i + 1).toNatClampNeg)
      refine lv_aload_n hx hb dL_law_687 rfl (lv_at hl 1 rfl) ?_
      refine lv_aload_n hx hb dL_law_688 rfl (lv_at hl 0 rfl) ?_
      refine lv_iload_n hx hb dL_law_689 rfl (lv_at hl 3 rfl) ?_
      refine lv_iconst (v := 1) hx hb dL_law_690 (by decide) ?_
      refine lv_iadd hx hb dL_law_691 ?_
      refine va_sld hx hb hX hbl hbA X.2.2.2.1 i1 dL_law_692 ?_
      refine hm_vi (As := [.int (xs (nI i + 1).toNatClampNeg)]) S X mw_X7_keep hw_4_39 (c_X7_keep l g a R Z ScR SeR SeA LeR LeZ BrA ShR ShZ SuA SuJ (xs (nI i + 1).toNatClampNeg) q hq) hm_lawL (ws' := (hm_wHM g a R Z ScR SeR (hm_up (hm_up SeA 1 q.2.1) 2 q.2.2) LeR LeZ BrA ShR ShZ SuA SuJ ++ hm_wMM g b9 A9 Z9)) hm_lawL rfl rfl rfl ⟨rfl, rfl, Nat.le_of_ble_eq_true rfl, Nat.le_of_ble_eq_true rfl⟩ rfl hl.1 rfl (Nat.le_of_ble_eq_true rfl) dL_law_693 ⟨Nat.le_of_ble_eq_true rfl, Nat.le_of_ble_eq_true rfl⟩ (fun H locs X => ?_)
      refine lv_aload_n hx hb dL_law_696 rfl (lv_at hl 2 rfl) ?_
      refine lv_aload_n hx hb dL_law_697 rfl (lv_at hl 0 rfl) ?_
      refine lv_iload_n hx hb dL_law_698 rfl (lv_at hl 3 rfl) ?_
      refine lv_iconst (v := 1) hx hb dL_law_699 (by decide) ?_
      refine lv_iadd hx hb dL_law_700 ?_
      refine va_sld hx hb hX hbl hbA X.2.2.2.1 i1 dL_law_701 ?_
      refine hm_vi (As := [.int (xs (nI i + 1).toNatClampNeg)]) S X mw_X8_keep hw_5_166 (c_X8_keep l g b9 A9 Z9 (xs (nI i + 1).toNatClampNeg) q9 hq9) hm_lawR (ws' := (hm_wHM g a R Z ScR SeR (hm_up (hm_up SeA 1 q.2.1) 2 q.2.2) LeR LeZ BrA ShR ShZ SuA SuJ ++ hm_wMM g b9 (hm_up (hm_up A9 9 q9.2.2) 10 q9.2.1) Z9)) hm_lawR rfl rfl rfl ⟨rfl, rfl, Nat.le_of_ble_eq_true rfl, Nat.le_of_ble_eq_true rfl⟩ rfl hl.1 rfl (Nat.le_of_ble_eq_true rfl) dL_law_702 ⟨Nat.le_of_ble_eq_true rfl, Nat.le_of_ble_eq_true rfl⟩ (fun H locs X => ?_)
      refine lv_icmp_eq (tgt := 756) hx hb dL_law_705 (by decide) (fun _ => ?_) (fun hne => absurd eq hne)
      exact hgo _ _ _ _ _ _ _ _ _ _ _ _ _ _ hRel _ _ X _ hl
    by_cases c32_22 : sw = 22
    · refine hm_tabIn (off := 678) (tgt := 710) (k := 22) hx hb dL_law_32 c32_22 (by decide) (by decide) (by decide) rfl (by decide) ?_
      obtain ⟨q, q9, hq, hq9, eq, hRel⟩ := st22 _ _ _ _ _ _ _ _ _ _ _ _ _ _ hRel (xs (nI i + 1).toNatClampNeg)
      refine lv_aload_n hx hb dL_law_710 rfl (lv_at hl 1 rfl) ?_
      refine lv_aload_n hx hb dL_law_711 rfl (lv_at hl 0 rfl) ?_
      refine lv_iload_n hx hb dL_law_712 rfl (lv_at hl 3 rfl) ?_
      refine lv_iconst (v := 1) hx hb dL_law_713 (by decide) ?_
      refine lv_iadd hx hb dL_law_714 ?_
      refine va_sld hx hb hX hbl hbA X.2.2.2.1 i1 dL_law_715 ?_
      refine hm_vi (As := [.int (xs (nI i + 1).toNatClampNeg)]) S X mw_X7_back hw_4_50 (c_X7_back l g a R Z ScR SeR SeA LeR LeZ BrA ShR ShZ SuA SuJ (xs (nI i + 1).toNatClampNeg) q hq) hm_lawL (ws' := (hm_wHM g a R (hm_up (hm_up Z 0 q.2.2.2.2.1) 1 q.2.2.2.2.2) ScR (hm_up (hm_up SeR 0 q.2.2.1) 1 q.2.2.2.1) (hm_up SeA 0 q.2.1) LeR LeZ BrA ShR ShZ SuA SuJ ++ hm_wMM g b9 A9 Z9)) hm_lawL rfl rfl rfl ⟨rfl, rfl, Nat.le_of_ble_eq_true rfl, Nat.le_of_ble_eq_true rfl⟩ rfl hl.1 rfl (Nat.le_of_ble_eq_true rfl) dL_law_716 ⟨Nat.le_of_ble_eq_true rfl, Nat.le_of_ble_eq_true rfl⟩ (fun H locs X => ?_)
      refine lv_aload_n hx hb dL_law_719 rfl (lv_at hl 2 rfl) ?_
      refine lv_aload_n hx hb dL_law_720 rfl (lv_at hl 0 rfl) ?_
      refine lv_iload_n hx hb dL_law_721 rfl (lv_at hl 3 rfl) ?_
      refine lv_iconst (v := 1) hx hb dL_law_722 (by decide) ?_
      refine lv_iadd hx hb dL_law_723 ?_
      refine va_sld hx hb hX hbl hbA X.2.2.2.1 i1 dL_law_724 ?_
      refine hm_vi (As := [.int (xs (nI i + 1).toNatClampNeg)]) S X mw_X8_back hw_5_170 (c_X8_back l g b9 A9 Z9 (xs (nI i + 1).toNatClampNeg) q9 hq9) hm_lawR (ws' := (hm_wHM g a R (hm_up (hm_up Z 0 q.2.2.2.2.1) 1 q.2.2.2.2.2) ScR (hm_up (hm_up SeR 0 q.2.2.1) 1 q.2.2.2.1) (hm_up SeA 0 q.2.1) LeR LeZ BrA ShR ShZ SuA SuJ ++ hm_wMM g b9 (hm_up A9 7 q9.2.1) (hm_up Z9 4 q9.2.2))) hm_lawR rfl rfl rfl ⟨rfl, rfl, Nat.le_of_ble_eq_true rfl, Nat.le_of_ble_eq_true rfl⟩ rfl hl.1 rfl (Nat.le_of_ble_eq_true rfl) dL_law_725 ⟨Nat.le_of_ble_eq_true rfl, Nat.le_of_ble_eq_true rfl⟩ (fun H locs X => ?_)
      refine lv_icmp_eq (tgt := 756) hx hb dL_law_728 (by decide) (fun _ => ?_) (fun hne => absurd eq hne)
      exact hgo _ _ _ _ _ _ _ _ _ _ _ _ _ _ hRel _ _ X _ hl
    by_cases c32_23 : sw = 23
    · refine hm_tabIn (off := 701) (tgt := 733) (k := 23) hx hb dL_law_32 c32_23 (by decide) (by decide) (by decide) rfl (by decide) ?_
      obtain ⟨q, q9, hq, hq9, eq, hRel⟩ := st23 _ _ _ _ _ _ _ _ _ _ _ _ _ _ hRel (xs (nI i + 1).toNatClampNeg)
      refine lv_aload_n hx hb dL_law_733 rfl (lv_at hl 1 rfl) ?_
      refine lv_aload_n hx hb dL_law_734 rfl (lv_at hl 0 rfl) ?_
      refine lv_iload_n hx hb dL_law_735 rfl (lv_at hl 3 rfl) ?_
      refine lv_iconst (v := 1) hx hb dL_law_736 (by decide) ?_
      refine lv_iadd hx hb dL_law_737 ?_
      refine va_sld hx hb hX hbl hbA X.2.2.2.1 i1 dL_law_738 ?_
      refine hm_vi (As := [.int (xs (nI i + 1).toNatClampNeg)]) S X mw_X7_count hw_4_63 (c_X7_count l g a R Z ScR SeR SeA LeR LeZ BrA ShR ShZ SuA SuJ (xs (nI i + 1).toNatClampNeg) q hq) hm_lawL (ws' := (hm_wHM g a R Z ScR SeR SeA LeR LeZ BrA ShR ShZ SuA SuJ ++ hm_wMM g b9 A9 Z9)) hm_lawL rfl rfl rfl ⟨rfl, rfl, Nat.le_of_ble_eq_true rfl, Nat.le_of_ble_eq_true rfl⟩ rfl hl.1 rfl (Nat.le_of_ble_eq_true rfl) dL_law_739 ⟨Nat.le_of_ble_eq_true rfl, Nat.le_of_ble_eq_true rfl⟩ (fun H locs X => ?_)
      refine lv_aload_n hx hb dL_law_742 rfl (lv_at hl 2 rfl) ?_
      refine lv_aload_n hx hb dL_law_743 rfl (lv_at hl 0 rfl) ?_
      refine lv_iload_n hx hb dL_law_744 rfl (lv_at hl 3 rfl) ?_
      refine lv_iconst (v := 1) hx hb dL_law_745 (by decide) ?_
      refine lv_iadd hx hb dL_law_746 ?_
      refine va_sld hx hb hX hbl hbA X.2.2.2.1 i1 dL_law_747 ?_
      refine hm_vi (As := [.int (xs (nI i + 1).toNatClampNeg)]) S X mw_X8_count hw_5_174 (c_X8_count l g b9 A9 Z9 (xs (nI i + 1).toNatClampNeg) q9 hq9) hm_lawR (ws' := (hm_wHM g a R Z ScR SeR SeA LeR LeZ BrA ShR ShZ SuA SuJ ++ hm_wMM g b9 A9 Z9)) hm_lawR rfl rfl rfl ⟨rfl, rfl, Nat.le_of_ble_eq_true rfl, Nat.le_of_ble_eq_true rfl⟩ rfl hl.1 rfl (Nat.le_of_ble_eq_true rfl) dL_law_748 ⟨Nat.le_of_ble_eq_true rfl, Nat.le_of_ble_eq_true rfl⟩ (fun H locs X => ?_)
      refine lv_icmp_eq (tgt := 756) hx hb dL_law_751 (by decide) (fun _ => ?_) (fun hne => absurd eq hne)
      exact hgo _ _ _ _ _ _ _ _ _ _ _ _ _ _ hRel _ _ X _ hl
    refine lv_tableOut (tgt := 756) hx hb dL_law_32 (hm_out 0 23 [0, 1, 2, 3, 4, 5, 6, 7, 8, 9, 10, 11, 12, 13, 14, 15, 16, 17, 18, 19, 20, 21, 22, 23] (by decide) (List.forall_mem_cons.mpr ⟨c32_0, List.forall_mem_cons.mpr ⟨c32_1, List.forall_mem_cons.mpr ⟨c32_2, List.forall_mem_cons.mpr ⟨c32_3, List.forall_mem_cons.mpr ⟨c32_4, List.forall_mem_cons.mpr ⟨c32_5, List.forall_mem_cons.mpr ⟨c32_6, List.forall_mem_cons.mpr ⟨c32_7, List.forall_mem_cons.mpr ⟨c32_8, List.forall_mem_cons.mpr ⟨c32_9, List.forall_mem_cons.mpr ⟨c32_10, List.forall_mem_cons.mpr ⟨c32_11, List.forall_mem_cons.mpr ⟨c32_12, List.forall_mem_cons.mpr ⟨c32_13, List.forall_mem_cons.mpr ⟨c32_14, List.forall_mem_cons.mpr ⟨c32_15, List.forall_mem_cons.mpr ⟨c32_16, List.forall_mem_cons.mpr ⟨c32_17, List.forall_mem_cons.mpr ⟨c32_18, List.forall_mem_cons.mpr ⟨c32_19, List.forall_mem_cons.mpr ⟨c32_20, List.forall_mem_cons.mpr ⟨c32_21, List.forall_mem_cons.mpr ⟨c32_22, List.forall_mem_cons.mpr ⟨c32_23, fun _ h => absurd h List.not_mem_nil⟩⟩⟩⟩⟩⟩⟩⟩⟩⟩⟩⟩⟩⟩⟩⟩⟩⟩⟩⟩⟩⟩⟩⟩)) (by decide) ?_
    exact hgo _ _ _ _ _ _ _ _ _ _ _ _ _ _ hRel _ _ X _ hl
