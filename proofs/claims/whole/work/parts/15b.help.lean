-- made by wip/whole/gen15.py: what an invariant must give; the law's helpers
def RL : String := "AccordHouseLaw"
abbrev cL_kind : ByteArray := method_3_code
def yL_kind : MethodName := ⟨RL, "kind", "(LAccordHouse;[J)I"⟩
abbrev cL_value : ByteArray := method_4_code
def yL_value : MethodName := ⟨RL, "value", "(LAccordHouse;IIII[J)I"⟩
abbrev cL_bound : ByteArray := method_5_code
def yL_bound : MethodName := ⟨RL, "bound", "(LAccordHouse;IIII[J)I"⟩
abbrev cL_past : ByteArray := method_6_code
def yL_past : MethodName := ⟨RL, "past", "(LAccordHouse;IIII[J)I"⟩
abbrev cL_law : ByteArray := code
def yL_law : MethodName := ⟨RL, "law", "([I)Z"⟩
/-- the seven places of a call in the script -/
def lIn (i : Int32) (L : Nat) : Prop := vp_in (i + (0 : Int32)) L ∧ vp_in (i + (1 : Int32)) L ∧ vp_in (i + (2 : Int32)) L ∧ vp_in (i + (3 : Int32)) L ∧ vp_in (i + (4 : Int32)) L ∧ vp_in (i + (5 : Int32)) L ∧ vp_in (i + (6 : Int32)) L
/-- what an invariant must give: it says where the class's object is; new cells of others don't break it; each call answers alike on both sides and keeps it -/
def lC_k (x0 : Nat) (I : cSt → mSt → Prop) : Prop := ∀ (S : cSt) (M : mSt), I S M → kK S x0 = 12
def lC_z (I : cSt → mSt → Prop) : Prop := ∀ (S : cSt) (M : mSt) (n : Nat), I S M → kZ S ≤ n → I (cZn S n) M
def lC_type (x0 : Nat) (I I' : cSt → mSt → Prop) : Prop := ∀ (S : cSt) (M : mSt) (v1 : Int64) (v2 : Int32), I S M → ∃ r S1 M1, fk_11_type S x0 v1 v2 = some (r, S1) ∧ fm_type M v1 v2 = some (r, M1) ∧ I' S1 M1
def lC_kind (x0 : Nat) (I I' : cSt → mSt → Prop) : Prop := ∀ (S : cSt) (M : mSt), I S M → ∃ tg r S1 r2 M1, fk_11_kind S x0 = some (tg, r, S1) ∧ fm_kind M = some (r2, M1) ∧ ((tg = 0 ∧ M1.1 0 = 0 ∧ r2 = r) ∨ (tg = 1 ∧ M1.1 0 = 1) ∨ (tg = 2 ∧ M1.1 0 = 2)) ∧ I' S1 M1
def lC_fault (x0 : Nat) (I I' : cSt → mSt → Prop) : Prop := ∀ (S : cSt) (M : mSt), I S M → ∃ r M1, fk_11_fault S x0 = some r ∧ fm_fault M = some (r, M1) ∧ I' S M1
def lC_tick (x0 : Nat) (I I' : cSt → mSt → Prop) : Prop := ∀ (S : cSt) (M : mSt) (v1 : Int32) (v2 : Int32), I S M → ∃ r S1 M1, fk_11_tick S x0 v1 v2 = some (r, S1) ∧ fm_tick M v1 v2 = some (r, M1) ∧ I' S1 M1
def lC_act (x0 : Nat) (I I' : cSt → mSt → Prop) : Prop := ∀ (S : cSt) (M : mSt) (v1 : Int32) (v2 : Int32) (v3 : Int32) (v4 : Int32) (v5 : Int32) (v6 : Int32), I S M → ∃ r S1 M1, fk_11_act S x0 v1 v2 v3 v4 v5 v6 = some (r, S1) ∧ fm_act M v1 v2 v3 v4 v5 v6 = some (r, M1) ∧ I' S1 M1
def lC_commit (x0 : Nat) (I I' : cSt → mSt → Prop) : Prop := ∀ (S : cSt) (M : mSt) (v1 : Int32) (v2 : Int32) (v3 : Int32), I S M → ∃ r S1 M1, fk_11_commit S x0 v1 v2 v3 = some (r, S1) ∧ fm_commit M v1 v2 v3 = some (r, M1) ∧ I' S1 M1
def lC_cursor (x0 : Nat) (I I' : cSt → mSt → Prop) : Prop := ∀ (S : cSt) (M : mSt) (v1 : Int32) (v2 : Int32) (v3 : Int32) (v4 : Int32), I S M → ∃ r S1 M1, fk_11_cursor S x0 v1 v2 v3 v4 = some (r, S1) ∧ fm_cursor M v1 v2 v3 v4 = some (r, M1) ∧ I' S1 M1
def lC_where (x0 : Nat) (I I' : cSt → mSt → Prop) : Prop := ∀ (S : cSt) (M : mSt) (v1 : Int32) (v2 : Int32) (v3 : Int32), I S M → ∃ r S1 M1, fk_11_where S x0 v1 v2 v3 = some (r, S1) ∧ fm_where M v1 v2 v3 = some (r, M1) ∧ I' S1 M1
def lC_stand (x0 : Nat) (I I' : cSt → mSt → Prop) : Prop := ∀ (S : cSt) (M : mSt) (v1 : Int32) (v2 : Int32) (v3 : Int32) (v4 : Int32) (v5 : Int32) (v6 : Int32), I S M → ∃ r S1 M1, fk_11_stand S x0 v1 v2 v3 v4 v5 v6 = some (r, S1) ∧ fm_stand M v1 v2 v3 v4 v5 v6 = some (r, M1) ∧ I' S1 M1
def lC_listed (x0 : Nat) (I I' : cSt → mSt → Prop) : Prop := ∀ (S : cSt) (M : mSt) (v1 : Int32) (v2 : Int32) (v3 : Int32), I S M → ∃ r M1, fk_11_listed S x0 v1 v2 v3 = some r ∧ fm_listed M v1 v2 v3 = some (r, M1) ∧ I' S M1
def lC_turned (x0 : Nat) (I I' : cSt → mSt → Prop) : Prop := ∀ (S : cSt) (M : mSt) (v1 : Int32) (v2 : Int32) (v3 : Int32), I S M → ∃ r M1, fk_11_turned S x0 v1 v2 v3 = some r ∧ fm_turned M v1 v2 v3 = some (r, M1) ∧ I' S M1
def lC_send (x0 : Nat) (I I' : cSt → mSt → Prop) : Prop := ∀ (S : cSt) (M : mSt) (v1 : Int32) (v2 : Int32) (v3 : Int32), I S M → v3 = 0 ∨ v3 = 1 → ∃ r S1 M1, fk_11_send S x0 v1 v2 v3 = some (r, S1) ∧ fm_send M v1 v2 v3 = some (r, M1) ∧ I' S1 M1
def lC_deliver (x0 : Nat) (I I' : cSt → mSt → Prop) : Prop := ∀ (S : cSt) (M : mSt) (v1 : Int32), I S M → ∃ r S1 M1, fk_11_deliver S x0 v1 = some (r, S1) ∧ fm_deliver M v1 = some (r, M1) ∧ I' S1 M1
def lC_lose (x0 : Nat) (I I' : cSt → mSt → Prop) : Prop := ∀ (S : cSt) (M : mSt) (v1 : Int32), I S M → ∃ r S1 M1, fk_11_lose S x0 v1 = some (r, S1) ∧ fm_lose M v1 = some (r, M1) ∧ I' S1 M1
def lC_twice (x0 : Nat) (I I' : cSt → mSt → Prop) : Prop := ∀ (S : cSt) (M : mSt) (v1 : Int32), I S M → ∃ r S1 M1, fk_11_twice S x0 v1 = some (r, S1) ∧ fm_twice M v1 = some (r, M1) ∧ I' S1 M1
def lC_octet (x0 : Nat) (I I' : cSt → mSt → Prop) : Prop := ∀ (S : cSt) (M : mSt) (v1 : Int32) (v2 : Int32), I S M → ∃ r S1 M1, fk_11_octet S x0 v1 v2 = some (r, S1) ∧ fm_octet M v1 v2 = some (r, M1) ∧ I' S1 M1
def lC_bend (x0 : Nat) (I I' : cSt → mSt → Prop) : Prop := ∀ (S : cSt) (M : mSt) (v1 : Int32) (v2 : Int32) (v3 : Int32), I S M → ∃ r S1 M1, fk_11_bend S x0 v1 v2 v3 = some (r, S1) ∧ fm_bend M v1 v2 v3 = some (r, M1) ∧ I' S1 M1
def lC_join (x0 : Nat) (I I' : cSt → mSt → Prop) : Prop := ∀ (S : cSt) (M : mSt) (v1 : Int32) (v2 : Int32), I S M → ∃ r S1 M1, fk_11_join S x0 v1 v2 = some (r, S1) ∧ fm_join M v1 v2 = some (r, M1) ∧ I' S1 M1
def lC_object (x0 : Nat) (I I' : cSt → mSt → Prop) : Prop := ∀ (S : cSt) (M : mSt) (v1 : Int32) (v2 : Int32) (v3 : Int32), I S M → ∃ r S1 M1, fk_11_object S x0 v1 v2 v3 = some (r, S1) ∧ fm_object M v1 v2 v3 = some (r, M1) ∧ I' S1 M1
def lC_size (x0 : Nat) (I I' : cSt → mSt → Prop) : Prop := ∀ (S : cSt) (M : mSt) (v1 : Int32) (v2 : Int32) (v3 : Int32), I S M → ∃ r S1 M1, fk_11_size S x0 v1 v2 v3 = some (r, S1) ∧ fm_size M v1 v2 v3 = some (r, M1) ∧ I' S1 M1
def lC_value (x0 : Nat) (I I' : cSt → mSt → Prop) : Prop := ∀ (S : cSt) (M : mSt) (v1 : Int32) (v2 : Int32) (v3 : Int32) (v4 : Int32), I S M → ∃ tg r S1 r2 M1, fk_11_value S x0 v1 v2 v3 v4 = some (tg, r, S1) ∧ fm_value M v1 v2 v3 v4 = some (r2, M1) ∧ ((tg = 0 ∧ M1.1 0 = 0 ∧ r2 = r) ∨ (tg = 3 ∧ M1.1 0 = 1)) ∧ I' S1 M1
def lC_bound (x0 : Nat) (I I' : cSt → mSt → Prop) : Prop := ∀ (S : cSt) (M : mSt) (v1 : Int32) (v2 : Int32) (v3 : Int32) (v4 : Int32), I S M → ∃ tg r S1 r2 M1, fk_11_bound S x0 v1 v2 v3 v4 = some (tg, r, S1) ∧ fm_bound M v1 v2 v3 v4 = some (r2, M1) ∧ ((tg = 0 ∧ M1.1 0 = 0 ∧ r2 = r) ∨ (tg = 3 ∧ M1.1 0 = 1)) ∧ I' S1 M1
def lC_by (x0 : Nat) (I I' : cSt → mSt → Prop) : Prop := ∀ (S : cSt) (M : mSt) (v1 : Int32) (v2 : Int32) (v3 : Int32) (v4 : Int32), I S M → ∃ r S1 M1, fk_11_by S x0 v1 v2 v3 v4 = some (r, S1) ∧ fm_by M v1 v2 v3 v4 = some (r, M1) ∧ I' S1 M1
def lC_list (x0 : Nat) (I I' : cSt → mSt → Prop) : Prop := ∀ (S : cSt) (M : mSt) (v1 : Int32) (v2 : Int32), I S M → ∃ r M1, fk_11_list S x0 v1 v2 = some r ∧ fm_list M v1 v2 = some (r, M1) ∧ I' S M1
def lC_count (x0 : Nat) (I I' : cSt → mSt → Prop) : Prop := ∀ (S : cSt) (M : mSt) (v1 : Int32) (v2 : Int32) (v3 : Int32) (v4 : Int32) (v5 : Int32), I S M → ∃ r M1, fk_11_count S x0 v1 v2 v3 v4 v5 = some r ∧ fm_count M v1 v2 v3 v4 v5 = some (r, M1) ∧ I' S M1
def lC_ranked (x0 : Nat) (I I' : cSt → mSt → Prop) : Prop := ∀ (S : cSt) (M : mSt) (v1 : Int32) (v2 : Int32) (v3 : Int32) (v4 : Int32), I S M → ∃ r S1 M1, fk_11_ranked S x0 v1 v2 v3 v4 = some (r, S1) ∧ fm_ranked M v1 v2 v3 v4 = some (r, M1) ∧ I' S1 M1
def lC_past (x0 : Nat) (I I' : cSt → mSt → Prop) : Prop := ∀ (S : cSt) (M : mSt) (v1 : Int32) (v2 : Int32) (v3 : Int32) (v4 : Int32), I S M → ∃ tg r S1 r2 M1, fk_11_past S x0 v1 v2 v3 v4 = some (tg, r, S1) ∧ fm_past M v1 v2 v3 v4 = some (r2, M1) ∧ ((tg = 0 ∧ M1.1 0 = 0 ∧ r2 = r) ∨ (tg = 3 ∧ M1.1 0 = 1)) ∧ I' S1 M1
def lC_was (x0 : Nat) (I I' : cSt → mSt → Prop) : Prop := ∀ (S : cSt) (M : mSt) (v1 : Int32) (v2 : Int32) (v3 : Int32) (v4 : Int32) (v5 : Int32), I S M → ∃ r S1 M1, fk_11_was S x0 v1 v2 v3 v4 v5 = some (r, S1) ∧ fm_was M v1 v2 v3 v4 v5 = some (r, M1) ∧ I' S1 M1
def lC_row (x0 : Nat) (I I' : cSt → mSt → Prop) : Prop := ∀ (S : cSt) (M : mSt) (v1 : Int32) (v2 : Int32) (v3 : Int32), I S M → ∃ r M1, fk_11_row S x0 v1 v2 v3 = some r ∧ fm_row M v1 v2 v3 = some (r, M1) ∧ I' S M1
def lC_frame (x0 : Nat) (I I' : cSt → mSt → Prop) : Prop := ∀ (S : cSt) (M : mSt) (v1 : Int32) (v2 : Int32), I S M → ∃ r M1, fk_11_frame S x0 v1 v2 = some r ∧ fm_frame M v1 v2 = some (r, M1) ∧ I' S M1
def lC_news (x0 : Nat) (I I' : cSt → mSt → Prop) : Prop := ∀ (S : cSt) (M : mSt) (v1 : Int32) (v2 : Int32) (v3 : Int32), I S M → ∃ r M1, fk_11_news S x0 v1 v2 v3 = some r ∧ fm_news M v1 v2 v3 = some (r, M1) ∧ I' S M1
def lC_calm (x0 : Nat) (I I' : cSt → mSt → Prop) : Prop := ∀ (S : cSt) (M : mSt) (v1 : Int32), I S M → ∃ r S1 M1, fk_11_calm S x0 v1 = some (r, S1) ∧ fm_calm M v1 = some (r, M1) ∧ I' S1 M1
def lC_node (x0 : Nat) (I I' : cSt → mSt → Prop) : Prop := ∀ (S : cSt) (M : mSt) (v1 : Int32) (v2 : Int32), I S M → ∃ r M1, fk_11_node S x0 v1 v2 = some r ∧ fm_node M v1 v2 = some (r, M1) ∧ I' S M1
def lC_total (x0 : Nat) (I I' : cSt → mSt → Prop) : Prop := ∀ (S : cSt) (M : mSt) (v1 : Int32), I S M → ∃ r M1, fk_11_total S x0 v1 = some r ∧ fm_total M v1 = some (r, M1) ∧ I' S M1
def lAll (x0 : Nat) (I I' : cSt → mSt → Prop) : Prop := lC_k x0 I ∧ lC_z I' ∧ (∀ S M, I S M → I' S M) ∧ lC_type x0 I I' ∧ lC_kind x0 I I' ∧ lC_fault x0 I I' ∧ lC_tick x0 I I' ∧ lC_act x0 I I' ∧ lC_commit x0 I I' ∧ lC_cursor x0 I I' ∧ lC_where x0 I I' ∧ lC_stand x0 I I' ∧ lC_listed x0 I I' ∧ lC_turned x0 I I' ∧ lC_send x0 I I' ∧ lC_deliver x0 I I' ∧ lC_lose x0 I I' ∧ lC_twice x0 I I' ∧ lC_octet x0 I I' ∧ lC_bend x0 I I' ∧ lC_join x0 I I' ∧ lC_object x0 I I' ∧ lC_size x0 I I' ∧ lC_value x0 I I' ∧ lC_bound x0 I I' ∧ lC_by x0 I I' ∧ lC_list x0 I I' ∧ lC_count x0 I I' ∧ lC_ranked x0 I I' ∧ lC_past x0 I I' ∧ lC_was x0 I I' ∧ lC_row x0 I I' ∧ lC_frame x0 I I' ∧ lC_news x0 I I' ∧ lC_calm x0 I I' ∧ lC_node x0 I I' ∧ lC_total x0 I I'
theorem dL_kind_0 : decode cL_kind 0 = .ok (.aload_n 1, 1) := by decide +kernel
theorem dL_kind_1 : decode cL_kind 1 = .ok (.iconst 0, 1) := by decide +kernel
theorem dL_kind_2 : decode cL_kind 2 = .ok (.aload_n 0, 1) := by decide +kernel
theorem dL_kind_3 : decode cL_kind 3 = .ok (.invokevirtual 7, 3) := by decide +kernel
theorem dL_kind_6 : decode cL_kind 6 = .ok (.i2l, 1) := by decide +kernel
theorem dL_kind_7 : decode cL_kind 7 = .ok (.lastore, 1) := by decide +kernel
theorem dL_kind_8 : decode cL_kind 8 = .ok (.goto 9, 3) := by decide +kernel
theorem dL_kind_11 : decode cL_kind 11 = .ok (.astore_n 2, 1) := by decide +kernel
theorem dL_kind_12 : decode cL_kind 12 = .ok (.iconst 1, 1) := by decide +kernel
theorem dL_kind_13 : decode cL_kind 13 = .ok (.ireturn, 1) := by decide +kernel
theorem dL_kind_14 : decode cL_kind 14 = .ok (.astore_n 2, 1) := by decide +kernel
theorem dL_kind_15 : decode cL_kind 15 = .ok (.iconst 2, 1) := by decide +kernel
theorem dL_kind_16 : decode cL_kind 16 = .ok (.ireturn, 1) := by decide +kernel
theorem dL_kind_17 : decode cL_kind 17 = .ok (.iconst 0, 1) := by decide +kernel
theorem dL_kind_18 : decode cL_kind 18 = .ok (.ireturn, 1) := by decide +kernel
theorem dL_value_0 : decode cL_value 0 = .ok (.aload 5, 2) := by decide +kernel
theorem dL_value_2 : decode cL_value 2 = .ok (.iconst 0, 1) := by decide +kernel
theorem dL_value_3 : decode cL_value 3 = .ok (.aload_n 0, 1) := by decide +kernel
theorem dL_value_4 : decode cL_value 4 = .ok (.iload_n 1, 1) := by decide +kernel
theorem dL_value_5 : decode cL_value 5 = .ok (.iload_n 2, 1) := by decide +kernel
theorem dL_value_6 : decode cL_value 6 = .ok (.iload_n 3, 1) := by decide +kernel
theorem dL_value_7 : decode cL_value 7 = .ok (.iload 4, 2) := by decide +kernel
theorem dL_value_9 : decode cL_value 9 = .ok (.invokevirtual 17, 3) := by decide +kernel
theorem dL_value_12 : decode cL_value 12 = .ok (.i2l, 1) := by decide +kernel
theorem dL_value_13 : decode cL_value 13 = .ok (.lastore, 1) := by decide +kernel
theorem dL_value_14 : decode cL_value 14 = .ok (.goto 7, 3) := by decide +kernel
theorem dL_value_17 : decode cL_value 17 = .ok (.astore 6, 2) := by decide +kernel
theorem dL_value_19 : decode cL_value 19 = .ok (.iconst 1, 1) := by decide +kernel
theorem dL_value_20 : decode cL_value 20 = .ok (.ireturn, 1) := by decide +kernel
theorem dL_value_21 : decode cL_value 21 = .ok (.iconst 0, 1) := by decide +kernel
theorem dL_value_22 : decode cL_value 22 = .ok (.ireturn, 1) := by decide +kernel
theorem dL_bound_0 : decode cL_bound 0 = .ok (.aload 5, 2) := by decide +kernel
theorem dL_bound_2 : decode cL_bound 2 = .ok (.iconst 0, 1) := by decide +kernel
theorem dL_bound_3 : decode cL_bound 3 = .ok (.aload_n 0, 1) := by decide +kernel
theorem dL_bound_4 : decode cL_bound 4 = .ok (.iload_n 1, 1) := by decide +kernel
theorem dL_bound_5 : decode cL_bound 5 = .ok (.iload_n 2, 1) := by decide +kernel
theorem dL_bound_6 : decode cL_bound 6 = .ok (.iload_n 3, 1) := by decide +kernel
theorem dL_bound_7 : decode cL_bound 7 = .ok (.iload 4, 2) := by decide +kernel
theorem dL_bound_9 : decode cL_bound 9 = .ok (.invokevirtual 23, 3) := by decide +kernel
theorem dL_bound_12 : decode cL_bound 12 = .ok (.i2l, 1) := by decide +kernel
theorem dL_bound_13 : decode cL_bound 13 = .ok (.lastore, 1) := by decide +kernel
theorem dL_bound_14 : decode cL_bound 14 = .ok (.goto 7, 3) := by decide +kernel
theorem dL_bound_17 : decode cL_bound 17 = .ok (.astore 6, 2) := by decide +kernel
theorem dL_bound_19 : decode cL_bound 19 = .ok (.iconst 1, 1) := by decide +kernel
theorem dL_bound_20 : decode cL_bound 20 = .ok (.ireturn, 1) := by decide +kernel
theorem dL_bound_21 : decode cL_bound 21 = .ok (.iconst 0, 1) := by decide +kernel
theorem dL_bound_22 : decode cL_bound 22 = .ok (.ireturn, 1) := by decide +kernel
theorem dL_past_0 : decode cL_past 0 = .ok (.aload 5, 2) := by decide +kernel
theorem dL_past_2 : decode cL_past 2 = .ok (.iconst 0, 1) := by decide +kernel
theorem dL_past_3 : decode cL_past 3 = .ok (.aload_n 0, 1) := by decide +kernel
theorem dL_past_4 : decode cL_past 4 = .ok (.iload_n 1, 1) := by decide +kernel
theorem dL_past_5 : decode cL_past 5 = .ok (.iload_n 2, 1) := by decide +kernel
theorem dL_past_6 : decode cL_past 6 = .ok (.iload_n 3, 1) := by decide +kernel
theorem dL_past_7 : decode cL_past 7 = .ok (.iload 4, 2) := by decide +kernel
theorem dL_past_9 : decode cL_past 9 = .ok (.invokevirtual 26, 3) := by decide +kernel
theorem dL_past_12 : decode cL_past 12 = .ok (.i2l, 1) := by decide +kernel
theorem dL_past_13 : decode cL_past 13 = .ok (.lastore, 1) := by decide +kernel
theorem dL_past_14 : decode cL_past 14 = .ok (.goto 7, 3) := by decide +kernel
theorem dL_past_17 : decode cL_past 17 = .ok (.astore 6, 2) := by decide +kernel
theorem dL_past_19 : decode cL_past 19 = .ok (.iconst 1, 1) := by decide +kernel
theorem dL_past_20 : decode cL_past 20 = .ok (.ireturn, 1) := by decide +kernel
theorem dL_past_21 : decode cL_past 21 = .ok (.iconst 0, 1) := by decide +kernel
theorem dL_past_22 : decode cL_past 22 = .ok (.ireturn, 1) := by decide +kernel
def lkc (tg : Nat) : Int32 := if tg = 0 then 0 else if tg = 1 then 1 else 2
def lkv (tg : Nat) : Int32 := if tg = 0 then 0 else 1
def lG (tg : Nat) (S9 : cSt) : cSt → Prop := fun S1 => (tg = 0 ∧ S1 = S9) ∨ ∃ n, kZ S9 ≤ n ∧ S1 = cZn S9 n
theorem lG_I {I : cSt → mSt → Prop} {tg : Nat} {S9 S2 : cSt} {M : mSt} (hz : lC_z I) (hG : lG tg S9 S2) (hi : I S9 M) : I S2 M := by
  rcases hG with ⟨-, rfl⟩ | ⟨n, hn, rfl⟩
  · exact hi
  · exact hz _ _ _ hi hn
def lPk (As : List Value) (D : cG) (S : cSt) (oa : Nat) (cL : ClassId) (o : Int64) : Array Value → State → Prop := fun v U => v = As.toArray ∧ cW D S U.heap ∧ cX D U ∧ kUz (cA S) U U.heap ∧ lO cL oa o U.heap ∧ ArrOfT U cL .long ∧ va_Nc (kEx 2) (kEx 1) U
theorem lPk.blind {As : List Value} {D : cG} {S : cSt} {oa : Nat} {cL : ClassId} {o : Int64} : FrameBlind (lPk As D S oa cL o) := fun a U g mk q => ⟨q.1, q.2.1, cX.same (u := U) (U := U.calling g mk a) rfl q.2.2.1, kUz.same (u := U) (U := U.calling g mk a) rfl q.2.2.2.1, q.2.2.2.2.1, arrOfT_moved (u := U) (E := U.calling g mk a) (Vm.Alike.refl U.vm) q.2.2.2.2.2.1, va_Nc.moved (u := U) (U := U.calling g mk a) (Vm.Alike.refl U.vm) q.2.2.2.2.2.2⟩
def lQk (k : Int32) (o1 : Int64) (D : cG) (S : cSt) (oa : Nat) (cL : ClassId) (G : cSt → Prop) : Array Value → State → Outcome → State → Prop := fun _ st o t => o = .returned (some (.int k)) ∧ (∃ S1, G S1 ∧ cW D S1 t.heap ∧ cGr S S1) ∧ lO cL oa o1 t.heap ∧ ∀ q : Nat, q < kZ S → q ≠ oa → ¬ kWr (kK S q) → t.heap[q]? = st.heap[q]?
def lFr (S : cSt) (oa : Nat) : Addr → Prop := fun q => cA S q ∨ q = oa
def lCw (own : String) (idx : Nat) (y : MethodName) (bytes : ByteArray) (maxL : Nat) (rt : Option FieldType) (hh : List (Nat × Nat × Nat × Nat)) (n : Nat) : Prop :=
  Cond.codeWith y bytes maxL rt hh ∈ lw_g ∧ Cond.methodLink own idx y ∈ lw_g ∧ Cond.initialized y.cls ∈ lw_g ∧ Cond.static y ∈ lw_g ∧ (y.cls ≠ "java/lang/invoke/MethodHandle" ∧ y.cls ≠ "java/lang/invoke/VarHandle" ∧ (parseMethodDescriptor y.desc).map (fun d => d.parameters.length) = some n)
section HK
variable {p : Program} {l : Launch} {e : Env} {R : Room} {s : State} {m : MethodId} {args : Array Value} {below : List Frame} {meth : Method} {c : Code} {H : Heap} {locs : List Loc} {cells slots : Nat} {Q : State → Prop}
variable {D : cG} {S S0 S1 S9 : cSt} {own : String} {cc bytes : ByteArray} {nL maxL n fr lo mc ms index : Nat} {pc : Nat} {ls : Array Slot} {rest st0 : List Value} {nF nR nC nS : Nat} {ret rt : Option FieldType} {y : MethodName} {ov : Option Value}
variable {cM : ClassId} {iS : Nat → Nat} {cI cZ : ClassId} {mo : Nat} {ad : Nat → Nat} {oa : Nat} {cL : ClassId} {M M1 : mSt} {o : Int64} {b L : Nat} {xs : Nat → Int32} {H1 : Heap} {Ls : List Loc}
theorem lD (X : lX l D S0 cM iS cI cZ mo ad cL b L xs s) (hJ : lJ D S0 cM iS cI cZ mo ad oa cL s S M o H locs) : D.2.2.2.1 oa = none := by
  cases hd : D.2.2.2.1 oa with
  | none => rfl
  | some cell =>
    have h1 := (Array.getElem?_eq_some_iff.mp (X.2.2.2.1.2.2.2.1 oa cell hd).1).1
    rw [X.2.2.2.1.1] at h1
    exact absurd h1 (Nat.not_lt.mpr hJ.2.2.2.2.2.1)
theorem lPk_of (X : lX l D S0 cM iS cI cZ mo ad cL b L xs s) (hJ : lJ D S0 cM iS cI cZ mo ad oa cL s S M o H locs) {U : State} {As : List Value} (hU : U.heap = H) (hW : s.WarmedH U.vm) : lPk As D S oa cL o As.toArray U := by
  refine ⟨rfl, by rw [hU]; exact hJ.1.1, X.2.1.warm hW, ?_, by rw [hU]; exact hJ.2.2.1, arrOfT_moved hW.alike X.2.2.2.2.2.2.2, X.2.2.2.2.2.1.2.moved hW.alike⟩
  rw [hU]
  refine X.2.2.2.2.2.1.1.warm hW (fun a _ h2 => hJ.1.2.1 a (Nat.not_le.mp h2) (X.2.2.2.2.1 a)) (fun q hq => ?_)
  rcases hq with h | h
  · refine Nat.not_lt.mp fun hlt => X.2.2.2.2.1 q ?_
    rw [← hJ.1.2.2.2.2 q hlt]; exact h
  · exact Nat.le_trans hJ.1.2.2.2.1 h
theorem l_help {hh : List (Nat × Nat × Nat × Nat)} {k : Int32} {o1 : Int64} {G : cSt → Prop} (C : cY p R s m args meth c own cc nL nF nC nS nR ret) (X : lX l D S0 cM iS cI cZ mo ad cL b L xs s) (hJ : lJ D S0 cM iS cI cZ mo ad oa cL s S M o H locs) (hls : ls.size = nL) (As : List Value)
    (hM : Met l y (Cond.codeWith y bytes maxL rt hh :: lw_g) { frames := fr, cells := mc, slots := ms, locals := lo } (lPk As D S oa cL o) (lQk k o1 D S oa cL G) mc ms (lFr S oa)) (hpre : ∀ U : State, U.heap = H → s.WarmedH U.vm → lPk As D S oa cL o As.toArray U) (hw : lCw own index y bytes maxL rt hh n) (hn : As.length = n)
    (hR : fr + 1 ≤ nF ∧ 8 + (maxL + 11) + lo ≤ nR) (hce : cells + mc ≤ nC ∧ slots + ms ≤ nS) (hst : st0 = As.reverse ++ rest) (hro : (rest.map fun v => v.category).sum ≤ 8) (hdg : decode cc pc = .ok (.invokestatic index, 3))
    (kk : ∀ (H1 : Heap) (locs1 : List Loc) (S2 : cSt), G S2 → lJ D S0 cM iS cI cZ mo ad oa cL s S2 M o1 H1 locs1 → W p l e R s m args below meth c H1 locs1 (cells + mc) (slots + ms) Q (F0 m (pc + 3) ls (.int k :: rest))) : W p l e R s m args below meth c H locs cells slots Q (F0 m pc ls st0) := by
  obtain ⟨h1, h2, h3, h4, h5⟩ := hw
  have cw : vx_CSW R s args own index y bytes maxL rt hh (Cond.codeWith y bytes maxL rt hh :: lw_g) { frames := fr, cells := mc, slots := ms, locals := lo } mc ms n :=
    ⟨⟨rfl, rfl, Nat.le_trans hR.1 C.2.2.2.2.2.1.1, Nat.le_trans hR.2 C.2.2.2.2.2.1.2.2.2, pay_in C.2.2.2.2.1 (mt_in (fun w hw => by rcases List.mem_cons.mp hw with rfl | hw; exact h1; exact hw)), List.mem_cons_self⟩, C.2.2.2.2.1 _ h1, C.2.2.2.2.1 _ h3, ⟨h5.1, h5.2.1⟩, fun sig h => by
      have h9 := h5.2.2
      rw [h] at h9
      exact (Option.some.inj h9).symm, C.2.2.2.2.1 _ h2, C.2.2.2.2.1 _ h4⟩
  intro T hT Z
  obtain ⟨v, st₀, t, T', Lx, h0, Z', hL, e1, e2, ⟨hv, ⟨S2, hG, hw1, hg⟩, ho, hk1⟩, st⟩ := vx_runSW (As := As) (rest := rest) (Ts := lw_g) ⟨C.1, C.2.1, C.2.2.1, C.2.2.2.1, C.2.2.2.2.1⟩ hM cw ⟨lPk.blind, hpre⟩ rfl hn hls hst (lv_room hro) hdg ⟨Nat.le_trans hce.1 C.2.2.2.2.2.1.2.1, Nat.le_trans hce.2 C.2.2.2.2.2.1.2.2.1⟩ T hT Z
  cases hv
  rw [h0] at hk1
  obtain ⟨t2, a1, b1⟩ := kk T'.heap (locs ++ Lx) S2 hG (hJ.both X.2.2.2.1 (by rw [e1]; exact hw1) (by rw [e1]; exact ho) (fun q q1 q2 q3 => by rw [e1]; exact hk1 q q1 q2 q3) hg hL) T' rfl Z'
  exact ⟨t2, st t2 a1, b1⟩
theorem lO.kept (h : lO cL oa o H) (hq : H1[oa]? = H[oa]?) : lO cL oa o H1 := by
  obtain ⟨f, q1, q2⟩ := h
  exact ⟨f, by rw [hq]; exact q1, q2⟩
theorem lO.lt (h : lO cL oa o H) (hW : cW D S H) : oa < kZ S := by
  obtain ⟨f, q1, -⟩ := h
  rw [← hW.1]; exact (Array.getElem?_eq_some_iff.mp q1).1
theorem lcmp_rf (x : Int64) : lg_cmp x x = 0 := by
  unfold lg_cmp
  simp
/-- the end of a helper behind its write of the out array -/
theorem lQ_ret {tg : Nat} {t : State} {x : Int64} {H2 : Heap} {a : Array Value} (hJ : cJ D S s.heap S9 H locs) (h0 : kK S oa = 0) (hlt : oa < kZ S) (hD : D.2.2.2.1 oa = none) (hfr : ∀ q : Nat, q < kZ S → ¬ kWr (kK S q) → H[q]? = s.heap[q]?) (ho : lO cL oa x H2) (hz : H2.size = H.size) (oq : ∀ q : Nat, q ≠ oa → H2[q]? = H[q]?) (ht : t.heap = H2) (k : Int32) (htg : tg = 0) : lQk k x D S oa cL (lG tg S9) a s (.returned (some (.int k))) t := by
  refine ⟨rfl, ⟨S9, Or.inl ⟨htg, rfl⟩, ?_, hJ.2.2.2⟩, by rw [ht]; exact ho, fun q q1 q2 q3 => by rw [ht, oq q q2]; exact hfr q q1 q3⟩
  rw [ht]
  refine hJ.1.keep hz fun q hq => oq q fun e9 => ?_
  subst e9
  rcases hq with h | h
  · exact h ((hJ.2.2.2.2 q hlt).trans h0)
  · exact h hD
theorem lQ_thr {tg : Nat} {t : State} {a : Array Value} (hJ : cJ D S s.heap (cZn S9 H.size) H locs) (hn : kZ S9 ≤ H.size) (h0 : kK S oa = 0) (hlt : oa < kZ S) (hfr : ∀ q : Nat, q < kZ S → ¬ kWr (kK S q) → H[q]? = s.heap[q]?) (ho : lO cL oa o s.heap) (ht : t.heap = H) (k : Int32) : lQk k o D S oa cL (lG tg S9) a s (.returned (some (.int k))) t :=
  ⟨rfl, ⟨_, Or.inr ⟨H.size, hn, rfl⟩, by rw [ht]; exact hJ.1, hJ.2.2.2⟩, by rw [ht]; exact ho.kept (hfr oa hlt (by rw [h0]; exact k0)), fun q q1 _ q3 => by rw [ht]; exact hfr q q1 q3⟩
end HK
theorem klL_33 : Cond.constantLong RL 33 4294967295 ∈ lw_g := mt_at 2381 (by decide +kernel) rfl
theorem xcL_13 : Cond.classLink RL 13 (kEx 1) ∈ lw_g := mt_at 1560 (by decide +kernel) rfl
theorem xcL_15 : Cond.classLink RL 15 (kEx 2) ∈ lw_g := mt_at 1561 (by decide +kernel) rfl
theorem xcL_21 : Cond.classLink RL 21 (kEx 3) ∈ lw_g := mt_at 1645 (by decide +kernel) rfl
theorem cwL_35 : cCw RL 35 yX11_type cX11_type 4 (some .boolean) 2 := ⟨kd_11_type, mt_at 402 (by decide +kernel) rfl, mt_at 1 (by decide +kernel) rfl, by decide +kernel⟩
theorem cdL_type : Cond.code yX12_type cX12_type 6 (some .boolean) ∈ lw_g := mt_at 1943 (by decide +kernel) rfl
theorem cwL_39 : cCw RL 39 yX12_type cX12_type 6 (some .boolean) 2 := ⟨cdL_type, mt_at 1940 (by decide +kernel) rfl, mt_at 11 (by decide +kernel) rfl, by decide +kernel⟩
theorem imL_type : Cond.instanceMethod yX12_type ∈ lw_g := mt_at 1941 (by decide +kernel) rfl
theorem slL_type : Cond.selects RX12 yX12_type yX12_type ∈ lw_g := mt_at 1942 (by decide +kernel) rfl
def hhL_kind : List (Nat × Nat × Nat × Nat) := [(0, 8, 11, 13), (0, 8, 14, 15)]
theorem cwL_40 : lCw RL 40 yL_kind cL_kind 3 (some .int) hhL_kind 2 := ⟨mt_at 1559 (by decide +kernel) rfl, mt_at 1557 (by decide +kernel) rfl, mt_at 0 (by decide +kernel) rfl, mt_at 1558 (by decide +kernel) rfl, by decide +kernel⟩
theorem cdL_kind : Cond.code yX12_kind cX12_kind 5 (some .int) ∈ lw_g := mt_at 1948 (by decide +kernel) rfl
theorem cwL_45 : cCw RL 45 yX12_kind cX12_kind 5 (some .int) 0 := ⟨cdL_kind, mt_at 1945 (by decide +kernel) rfl, mt_at 11 (by decide +kernel) rfl, by decide +kernel⟩
theorem imL_kind : Cond.instanceMethod yX12_kind ∈ lw_g := mt_at 1946 (by decide +kernel) rfl
theorem slL_kind : Cond.selects RX12 yX12_kind yX12_kind ∈ lw_g := mt_at 1947 (by decide +kernel) rfl
theorem cdL_thrown : Cond.code yX12_thrown cX12_thrown 1 (some .int) ∈ lw_g := mt_at 1939 (by decide +kernel) rfl
theorem cwL_46 : cCw RL 46 yX12_thrown cX12_thrown 1 (some .int) 0 := ⟨cdL_thrown, mt_at 1936 (by decide +kernel) rfl, mt_at 11 (by decide +kernel) rfl, by decide +kernel⟩
theorem imL_thrown : Cond.instanceMethod yX12_thrown ∈ lw_g := mt_at 1937 (by decide +kernel) rfl
theorem slL_thrown : Cond.selects RX12 yX12_thrown yX12_thrown ∈ lw_g := mt_at 1938 (by decide +kernel) rfl
theorem cwL_49 : cCw RL 49 yX11_fault cX11_fault 1 (some .int) 0 := ⟨kd_11_fault, mt_at 413 (by decide +kernel) rfl, mt_at 1 (by decide +kernel) rfl, by decide +kernel⟩
theorem cdL_fault : Cond.code yX12_fault cX12_fault 1 (some .int) ∈ lw_g := mt_at 1955 (by decide +kernel) rfl
theorem cwL_52 : cCw RL 52 yX12_fault cX12_fault 1 (some .int) 0 := ⟨cdL_fault, mt_at 1952 (by decide +kernel) rfl, mt_at 11 (by decide +kernel) rfl, by decide +kernel⟩
theorem imL_fault : Cond.instanceMethod yX12_fault ∈ lw_g := mt_at 1953 (by decide +kernel) rfl
theorem slL_fault : Cond.selects RX12 yX12_fault yX12_fault ∈ lw_g := mt_at 1954 (by decide +kernel) rfl
theorem cwL_53 : cCw RL 53 yX11_tick cX11_tick 3 (some .int) 2 := ⟨kd_11_tick, mt_at 417 (by decide +kernel) rfl, mt_at 1 (by decide +kernel) rfl, by decide +kernel⟩
theorem cdL_tick : Cond.code yX12_tick cX12_tick 3 (some .int) ∈ lw_g := mt_at 1959 (by decide +kernel) rfl
theorem cwL_57 : cCw RL 57 yX12_tick cX12_tick 3 (some .int) 2 := ⟨cdL_tick, mt_at 1956 (by decide +kernel) rfl, mt_at 11 (by decide +kernel) rfl, by decide +kernel⟩
theorem imL_tick : Cond.instanceMethod yX12_tick ∈ lw_g := mt_at 1957 (by decide +kernel) rfl
theorem slL_tick : Cond.selects RX12 yX12_tick yX12_tick ∈ lw_g := mt_at 1958 (by decide +kernel) rfl
theorem cwL_58 : cCw RL 58 yX11_act cX11_act 9 (some .int) 6 := ⟨kd_11_act, mt_at 424 (by decide +kernel) rfl, mt_at 1 (by decide +kernel) rfl, by decide +kernel⟩
theorem cdL_act : Cond.code yX12_act cX12_act 9 (some .int) ∈ lw_g := mt_at 1966 (by decide +kernel) rfl
theorem cwL_62 : cCw RL 62 yX12_act cX12_act 9 (some .int) 6 := ⟨cdL_act, mt_at 1963 (by decide +kernel) rfl, mt_at 11 (by decide +kernel) rfl, by decide +kernel⟩
theorem imL_act : Cond.instanceMethod yX12_act ∈ lw_g := mt_at 1964 (by decide +kernel) rfl
theorem slL_act : Cond.selects RX12 yX12_act yX12_act ∈ lw_g := mt_at 1965 (by decide +kernel) rfl
theorem cwL_63 : cCw RL 63 yX11_commit cX11_commit 8 (some .int) 3 := ⟨kd_11_commit, mt_at 1172 (by decide +kernel) rfl, mt_at 1 (by decide +kernel) rfl, by decide +kernel⟩
theorem cdL_commit : Cond.code yX12_commit cX12_commit 7 (some .int) ∈ lw_g := mt_at 2175 (by decide +kernel) rfl
theorem cwL_67 : cCw RL 67 yX12_commit cX12_commit 7 (some .int) 3 := ⟨cdL_commit, mt_at 2172 (by decide +kernel) rfl, mt_at 11 (by decide +kernel) rfl, by decide +kernel⟩
theorem imL_commit : Cond.instanceMethod yX12_commit ∈ lw_g := mt_at 2173 (by decide +kernel) rfl
theorem slL_commit : Cond.selects RX12 yX12_commit yX12_commit ∈ lw_g := mt_at 2174 (by decide +kernel) rfl
theorem cwL_68 : cCw RL 68 yX11_cursor cX11_cursor 6 (some .boolean) 4 := ⟨kd_11_cursor, mt_at 1203 (by decide +kernel) rfl, mt_at 1 (by decide +kernel) rfl, by decide +kernel⟩
theorem cdL_cursor : Cond.code yX12_cursor cX12_cursor 6 (some .boolean) ∈ lw_g := mt_at 2195 (by decide +kernel) rfl
theorem cwL_72 : cCw RL 72 yX12_cursor cX12_cursor 6 (some .boolean) 4 := ⟨cdL_cursor, mt_at 2192 (by decide +kernel) rfl, mt_at 11 (by decide +kernel) rfl, by decide +kernel⟩
theorem imL_cursor : Cond.instanceMethod yX12_cursor ∈ lw_g := mt_at 2193 (by decide +kernel) rfl
theorem slL_cursor : Cond.selects RX12 yX12_cursor yX12_cursor ∈ lw_g := mt_at 2194 (by decide +kernel) rfl
theorem cwL_73 : cCw RL 73 yX11_where cX11_where 6 (some .int) 3 := ⟨kd_11_where, mt_at 1211 (by decide +kernel) rfl, mt_at 1 (by decide +kernel) rfl, by decide +kernel⟩
theorem cdL_where : Cond.code yX12_where cX12_where 10 (some .int) ∈ lw_g := mt_at 2199 (by decide +kernel) rfl
theorem cwL_76 : cCw RL 76 yX12_where cX12_where 10 (some .int) 3 := ⟨cdL_where, mt_at 2196 (by decide +kernel) rfl, mt_at 11 (by decide +kernel) rfl, by decide +kernel⟩
theorem imL_where : Cond.instanceMethod yX12_where ∈ lw_g := mt_at 2197 (by decide +kernel) rfl
theorem slL_where : Cond.selects RX12 yX12_where yX12_where ∈ lw_g := mt_at 2198 (by decide +kernel) rfl
theorem cwL_77 : cCw RL 77 yX11_stand cX11_stand 7 (some .boolean) 6 := ⟨kd_11_stand, mt_at 1225 (by decide +kernel) rfl, mt_at 1 (by decide +kernel) rfl, by decide +kernel⟩
theorem cdL_stand : Cond.code yX12_stand cX12_stand 8 (some .boolean) ∈ lw_g := mt_at 2203 (by decide +kernel) rfl
theorem cwL_81 : cCw RL 81 yX12_stand cX12_stand 8 (some .boolean) 6 := ⟨cdL_stand, mt_at 2200 (by decide +kernel) rfl, mt_at 11 (by decide +kernel) rfl, by decide +kernel⟩
theorem imL_stand : Cond.instanceMethod yX12_stand ∈ lw_g := mt_at 2201 (by decide +kernel) rfl
theorem slL_stand : Cond.selects RX12 yX12_stand yX12_stand ∈ lw_g := mt_at 2202 (by decide +kernel) rfl
theorem cwL_82 : cCw RL 82 yX11_listed cX11_listed 7 (some .int) 3 := ⟨kd_11_listed, mt_at 1233 (by decide +kernel) rfl, mt_at 1 (by decide +kernel) rfl, by decide +kernel⟩
theorem cdL_listed : Cond.code yX12_listed cX12_listed 4 (some .int) ∈ lw_g := mt_at 2211 (by decide +kernel) rfl
theorem cwL_85 : cCw RL 85 yX12_listed cX12_listed 4 (some .int) 3 := ⟨cdL_listed, mt_at 2208 (by decide +kernel) rfl, mt_at 11 (by decide +kernel) rfl, by decide +kernel⟩
theorem imL_listed : Cond.instanceMethod yX12_listed ∈ lw_g := mt_at 2209 (by decide +kernel) rfl
theorem slL_listed : Cond.selects RX12 yX12_listed yX12_listed ∈ lw_g := mt_at 2210 (by decide +kernel) rfl
theorem cwL_86 : cCw RL 86 yX11_turned cX11_turned 4 (some .int) 3 := ⟨kd_11_turned, mt_at 1239 (by decide +kernel) rfl, mt_at 1 (by decide +kernel) rfl, by decide +kernel⟩
theorem cdL_turned : Cond.code yX12_turned cX12_turned 5 (some .int) ∈ lw_g := mt_at 2215 (by decide +kernel) rfl
theorem cwL_89 : cCw RL 89 yX12_turned cX12_turned 5 (some .int) 3 := ⟨cdL_turned, mt_at 2212 (by decide +kernel) rfl, mt_at 11 (by decide +kernel) rfl, by decide +kernel⟩
theorem imL_turned : Cond.instanceMethod yX12_turned ∈ lw_g := mt_at 2213 (by decide +kernel) rfl
theorem slL_turned : Cond.selects RX12 yX12_turned yX12_turned ∈ lw_g := mt_at 2214 (by decide +kernel) rfl
theorem cwL_90 : cCw RL 90 yX11_send cX11_send 4 (some .boolean) 3 := ⟨kd_11_send, mt_at 1247 (by decide +kernel) rfl, mt_at 1 (by decide +kernel) rfl, by decide +kernel⟩
theorem cdL_send : Cond.code yX12_send cX12_send 4 (some .boolean) ∈ lw_g := mt_at 2219 (by decide +kernel) rfl
theorem cwL_94 : cCw RL 94 yX12_send cX12_send 4 (some .boolean) 3 := ⟨cdL_send, mt_at 2216 (by decide +kernel) rfl, mt_at 11 (by decide +kernel) rfl, by decide +kernel⟩
theorem imL_send : Cond.instanceMethod yX12_send ∈ lw_g := mt_at 2217 (by decide +kernel) rfl
theorem slL_send : Cond.selects RX12 yX12_send yX12_send ∈ lw_g := mt_at 2218 (by decide +kernel) rfl
theorem cwL_95 : cCw RL 95 yX11_deliver cX11_deliver 6 (some .int) 1 := ⟨kd_11_deliver, mt_at 1331 (by decide +kernel) rfl, mt_at 1 (by decide +kernel) rfl, by decide +kernel⟩
theorem cdL_deliver : Cond.code yX12_deliver cX12_deliver 8 (some .int) ∈ lw_g := mt_at 2264 (by decide +kernel) rfl
theorem cwL_99 : cCw RL 99 yX12_deliver cX12_deliver 8 (some .int) 1 := ⟨cdL_deliver, mt_at 2261 (by decide +kernel) rfl, mt_at 11 (by decide +kernel) rfl, by decide +kernel⟩
theorem imL_deliver : Cond.instanceMethod yX12_deliver ∈ lw_g := mt_at 2262 (by decide +kernel) rfl
theorem slL_deliver : Cond.selects RX12 yX12_deliver yX12_deliver ∈ lw_g := mt_at 2263 (by decide +kernel) rfl
theorem cwL_100 : cCw RL 100 yX11_lose cX11_lose 2 (some .boolean) 1 := ⟨kd_11_lose, mt_at 1370 (by decide +kernel) rfl, mt_at 1 (by decide +kernel) rfl, by decide +kernel⟩
theorem cdL_lose : Cond.code yX12_lose cX12_lose 2 (some .boolean) ∈ lw_g := mt_at 2288 (by decide +kernel) rfl
theorem cwL_104 : cCw RL 104 yX12_lose cX12_lose 2 (some .boolean) 1 := ⟨cdL_lose, mt_at 2285 (by decide +kernel) rfl, mt_at 11 (by decide +kernel) rfl, by decide +kernel⟩
theorem imL_lose : Cond.instanceMethod yX12_lose ∈ lw_g := mt_at 2286 (by decide +kernel) rfl
theorem slL_lose : Cond.selects RX12 yX12_lose yX12_lose ∈ lw_g := mt_at 2287 (by decide +kernel) rfl
theorem cwL_105 : cCw RL 105 yX11_twice cX11_twice 3 (some .boolean) 1 := ⟨kd_11_twice, mt_at 1374 (by decide +kernel) rfl, mt_at 1 (by decide +kernel) rfl, by decide +kernel⟩
theorem cdL_twice : Cond.code yX12_twice cX12_twice 3 (some .boolean) ∈ lw_g := mt_at 2292 (by decide +kernel) rfl
theorem cwL_108 : cCw RL 108 yX12_twice cX12_twice 3 (some .boolean) 1 := ⟨cdL_twice, mt_at 2289 (by decide +kernel) rfl, mt_at 11 (by decide +kernel) rfl, by decide +kernel⟩
theorem imL_twice : Cond.instanceMethod yX12_twice ∈ lw_g := mt_at 2290 (by decide +kernel) rfl
theorem slL_twice : Cond.selects RX12 yX12_twice yX12_twice ∈ lw_g := mt_at 2291 (by decide +kernel) rfl
theorem cwL_109 : cCw RL 109 yX11_octet cX11_octet 4 (some .int) 2 := ⟨kd_11_octet, mt_at 1411 (by decide +kernel) rfl, mt_at 1 (by decide +kernel) rfl, by decide +kernel⟩
theorem cdL_octet : Cond.code yX12_octet cX12_octet 3 (some .int) ∈ lw_g := mt_at 2235 (by decide +kernel) rfl
theorem cwL_112 : cCw RL 112 yX12_octet cX12_octet 3 (some .int) 2 := ⟨cdL_octet, mt_at 2232 (by decide +kernel) rfl, mt_at 11 (by decide +kernel) rfl, by decide +kernel⟩
theorem imL_octet : Cond.instanceMethod yX12_octet ∈ lw_g := mt_at 2233 (by decide +kernel) rfl
theorem slL_octet : Cond.selects RX12 yX12_octet yX12_octet ∈ lw_g := mt_at 2234 (by decide +kernel) rfl
theorem cwL_113 : cCw RL 113 yX11_bend cX11_bend 5 (some .boolean) 3 := ⟨kd_11_bend, mt_at 1420 (by decide +kernel) rfl, mt_at 1 (by decide +kernel) rfl, by decide +kernel⟩
theorem cdL_bend : Cond.code yX12_bend cX12_bend 4 (some .boolean) ∈ lw_g := mt_at 2260 (by decide +kernel) rfl
theorem cwL_117 : cCw RL 117 yX12_bend cX12_bend 4 (some .boolean) 3 := ⟨cdL_bend, mt_at 2257 (by decide +kernel) rfl, mt_at 11 (by decide +kernel) rfl, by decide +kernel⟩
theorem imL_bend : Cond.instanceMethod yX12_bend ∈ lw_g := mt_at 2258 (by decide +kernel) rfl
theorem slL_bend : Cond.selects RX12 yX12_bend yX12_bend ∈ lw_g := mt_at 2259 (by decide +kernel) rfl
theorem cwL_118 : cCw RL 118 yX11_join cX11_join 3 (some .boolean) 2 := ⟨kd_11_join, mt_at 1428 (by decide +kernel) rfl, mt_at 1 (by decide +kernel) rfl, by decide +kernel⟩
theorem cdL_join : Cond.code yX12_join cX12_join 5 (some .boolean) ∈ lw_g := mt_at 2296 (by decide +kernel) rfl
theorem cwL_122 : cCw RL 122 yX12_join cX12_join 5 (some .boolean) 2 := ⟨cdL_join, mt_at 2293 (by decide +kernel) rfl, mt_at 11 (by decide +kernel) rfl, by decide +kernel⟩
theorem imL_join : Cond.instanceMethod yX12_join ∈ lw_g := mt_at 2294 (by decide +kernel) rfl
theorem slL_join : Cond.selects RX12 yX12_join yX12_join ∈ lw_g := mt_at 2295 (by decide +kernel) rfl
theorem cwL_123 : cCw RL 123 yX11_object cX11_object 6 (some .int) 3 := ⟨kd_11_object, mt_at 1445 (by decide +kernel) rfl, mt_at 1 (by decide +kernel) rfl, by decide +kernel⟩
theorem cdL_object : Cond.code yX12_object cX12_object 4 (some .int) ∈ lw_g := mt_at 2304 (by decide +kernel) rfl
theorem cwL_126 : cCw RL 126 yX12_object cX12_object 4 (some .int) 3 := ⟨cdL_object, mt_at 2301 (by decide +kernel) rfl, mt_at 11 (by decide +kernel) rfl, by decide +kernel⟩
theorem imL_object : Cond.instanceMethod yX12_object ∈ lw_g := mt_at 2302 (by decide +kernel) rfl
theorem slL_object : Cond.selects RX12 yX12_object yX12_object ∈ lw_g := mt_at 2303 (by decide +kernel) rfl
theorem cwL_127 : cCw RL 127 yX11_size cX11_size 6 (some .int) 3 := ⟨kd_11_size, mt_at 1458 (by decide +kernel) rfl, mt_at 1 (by decide +kernel) rfl, by decide +kernel⟩
theorem cdL_size : Cond.code yX12_size cX12_size 4 (some .int) ∈ lw_g := mt_at 2316 (by decide +kernel) rfl
theorem cwL_130 : cCw RL 130 yX12_size cX12_size 4 (some .int) 3 := ⟨cdL_size, mt_at 2313 (by decide +kernel) rfl, mt_at 11 (by decide +kernel) rfl, by decide +kernel⟩
theorem imL_size : Cond.instanceMethod yX12_size ∈ lw_g := mt_at 2314 (by decide +kernel) rfl
theorem slL_size : Cond.selects RX12 yX12_size yX12_size ∈ lw_g := mt_at 2315 (by decide +kernel) rfl
def hhL_value : List (Nat × Nat × Nat × Nat) := [(0, 14, 17, 21)]
theorem cwL_131 : lCw RL 131 yL_value cL_value 7 (some .int) hhL_value 6 := ⟨mt_at 1644 (by decide +kernel) rfl, mt_at 1642 (by decide +kernel) rfl, mt_at 0 (by decide +kernel) rfl, mt_at 1643 (by decide +kernel) rfl, by decide +kernel⟩
theorem cdL_value : Cond.code yX12_value cX12_value 5 (some .int) ∈ lw_g := mt_at 2320 (by decide +kernel) rfl
theorem cwL_134 : cCw RL 134 yX12_value cX12_value 5 (some .int) 4 := ⟨cdL_value, mt_at 2317 (by decide +kernel) rfl, mt_at 11 (by decide +kernel) rfl, by decide +kernel⟩
theorem imL_value : Cond.instanceMethod yX12_value ∈ lw_g := mt_at 2318 (by decide +kernel) rfl
theorem slL_value : Cond.selects RX12 yX12_value yX12_value ∈ lw_g := mt_at 2319 (by decide +kernel) rfl
def hhL_bound : List (Nat × Nat × Nat × Nat) := [(0, 14, 17, 21)]
theorem cwL_135 : lCw RL 135 yL_bound cL_bound 7 (some .int) hhL_bound 6 := ⟨mt_at 1670 (by decide +kernel) rfl, mt_at 1668 (by decide +kernel) rfl, mt_at 0 (by decide +kernel) rfl, mt_at 1669 (by decide +kernel) rfl, by decide +kernel⟩
theorem cdL_bound : Cond.code yX12_bound cX12_bound 6 (some .int) ∈ lw_g := mt_at 2324 (by decide +kernel) rfl
theorem cwL_137 : cCw RL 137 yX12_bound cX12_bound 6 (some .int) 4 := ⟨cdL_bound, mt_at 2321 (by decide +kernel) rfl, mt_at 11 (by decide +kernel) rfl, by decide +kernel⟩
theorem imL_bound : Cond.instanceMethod yX12_bound ∈ lw_g := mt_at 2322 (by decide +kernel) rfl
theorem slL_bound : Cond.selects RX12 yX12_bound yX12_bound ∈ lw_g := mt_at 2323 (by decide +kernel) rfl
theorem cwL_138 : cCw RL 138 yX11_by cX11_by 10 (some .int) 4 := ⟨kd_11_by, mt_at 1475 (by decide +kernel) rfl, mt_at 1 (by decide +kernel) rfl, by decide +kernel⟩
theorem cdL_by : Cond.code yX12_by cX12_by 6 (some .int) ∈ lw_g := mt_at 2328 (by decide +kernel) rfl
theorem cwL_141 : cCw RL 141 yX12_by cX12_by 6 (some .int) 4 := ⟨cdL_by, mt_at 2325 (by decide +kernel) rfl, mt_at 11 (by decide +kernel) rfl, by decide +kernel⟩
theorem imL_by : Cond.instanceMethod yX12_by ∈ lw_g := mt_at 2326 (by decide +kernel) rfl
theorem slL_by : Cond.selects RX12 yX12_by yX12_by ∈ lw_g := mt_at 2327 (by decide +kernel) rfl
theorem cwL_142 : cCw RL 142 yX11_list cX11_list 5 (some .int) 2 := ⟨kd_11_list, mt_at 1488 (by decide +kernel) rfl, mt_at 1 (by decide +kernel) rfl, by decide +kernel⟩
theorem cdL_list : Cond.code yX12_list cX12_list 5 (some .int) ∈ lw_g := mt_at 2332 (by decide +kernel) rfl
theorem cwL_145 : cCw RL 145 yX12_list cX12_list 5 (some .int) 2 := ⟨cdL_list, mt_at 2329 (by decide +kernel) rfl, mt_at 11 (by decide +kernel) rfl, by decide +kernel⟩
theorem imL_list : Cond.instanceMethod yX12_list ∈ lw_g := mt_at 2330 (by decide +kernel) rfl
theorem slL_list : Cond.selects RX12 yX12_list yX12_list ∈ lw_g := mt_at 2331 (by decide +kernel) rfl
theorem cwL_146 : cCw RL 146 yX11_count cX11_count 10 (some .int) 5 := ⟨kd_11_count, mt_at 1492 (by decide +kernel) rfl, mt_at 1 (by decide +kernel) rfl, by decide +kernel⟩
theorem cdL_count : Cond.code yX12_count cX12_count 8 (some .int) ∈ lw_g := mt_at 2336 (by decide +kernel) rfl
theorem cwL_150 : cCw RL 150 yX12_count cX12_count 8 (some .int) 5 := ⟨cdL_count, mt_at 2333 (by decide +kernel) rfl, mt_at 11 (by decide +kernel) rfl, by decide +kernel⟩
theorem imL_count : Cond.instanceMethod yX12_count ∈ lw_g := mt_at 2334 (by decide +kernel) rfl
theorem slL_count : Cond.selects RX12 yX12_count yX12_count ∈ lw_g := mt_at 2335 (by decide +kernel) rfl
theorem cwL_151 : cCw RL 151 yX11_ranked cX11_ranked 8 (some .int) 4 := ⟨kd_11_ranked, mt_at 1502 (by decide +kernel) rfl, mt_at 1 (by decide +kernel) rfl, by decide +kernel⟩
theorem cdL_ranked : Cond.code yX12_ranked cX12_ranked 8 (some .int) ∈ lw_g := mt_at 2340 (by decide +kernel) rfl
theorem cwL_154 : cCw RL 154 yX12_ranked cX12_ranked 8 (some .int) 4 := ⟨cdL_ranked, mt_at 2337 (by decide +kernel) rfl, mt_at 11 (by decide +kernel) rfl, by decide +kernel⟩
theorem imL_ranked : Cond.instanceMethod yX12_ranked ∈ lw_g := mt_at 2338 (by decide +kernel) rfl
theorem slL_ranked : Cond.selects RX12 yX12_ranked yX12_ranked ∈ lw_g := mt_at 2339 (by decide +kernel) rfl
def hhL_past : List (Nat × Nat × Nat × Nat) := [(0, 14, 17, 21)]
theorem cwL_155 : lCw RL 155 yL_past cL_past 7 (some .int) hhL_past 6 := ⟨mt_at 1679 (by decide +kernel) rfl, mt_at 1677 (by decide +kernel) rfl, mt_at 0 (by decide +kernel) rfl, mt_at 1678 (by decide +kernel) rfl, by decide +kernel⟩
theorem cdL_past : Cond.code yX12_past cX12_past 6 (some .int) ∈ lw_g := mt_at 2344 (by decide +kernel) rfl
theorem cwL_157 : cCw RL 157 yX12_past cX12_past 6 (some .int) 4 := ⟨cdL_past, mt_at 2341 (by decide +kernel) rfl, mt_at 11 (by decide +kernel) rfl, by decide +kernel⟩
theorem imL_past : Cond.instanceMethod yX12_past ∈ lw_g := mt_at 2342 (by decide +kernel) rfl
theorem slL_past : Cond.selects RX12 yX12_past yX12_past ∈ lw_g := mt_at 2343 (by decide +kernel) rfl
theorem cwL_158 : cCw RL 158 yX11_was cX11_was 8 (some .int) 5 := ⟨kd_11_was, mt_at 1510 (by decide +kernel) rfl, mt_at 1 (by decide +kernel) rfl, by decide +kernel⟩
theorem cdL_was : Cond.code yX12_was cX12_was 6 (some .int) ∈ lw_g := mt_at 2348 (by decide +kernel) rfl
theorem cwL_161 : cCw RL 161 yX12_was cX12_was 6 (some .int) 5 := ⟨cdL_was, mt_at 2345 (by decide +kernel) rfl, mt_at 11 (by decide +kernel) rfl, by decide +kernel⟩
theorem imL_was : Cond.instanceMethod yX12_was ∈ lw_g := mt_at 2346 (by decide +kernel) rfl
theorem slL_was : Cond.selects RX12 yX12_was yX12_was ∈ lw_g := mt_at 2347 (by decide +kernel) rfl
theorem cwL_162 : cCw RL 162 yX11_row cX11_row 6 (some .int) 3 := ⟨kd_11_row, mt_at 1519 (by decide +kernel) rfl, mt_at 1 (by decide +kernel) rfl, by decide +kernel⟩
theorem cdL_row : Cond.code yX12_row cX12_row 6 (some .int) ∈ lw_g := mt_at 2352 (by decide +kernel) rfl
theorem cwL_165 : cCw RL 165 yX12_row cX12_row 6 (some .int) 3 := ⟨cdL_row, mt_at 2349 (by decide +kernel) rfl, mt_at 11 (by decide +kernel) rfl, by decide +kernel⟩
theorem imL_row : Cond.instanceMethod yX12_row ∈ lw_g := mt_at 2350 (by decide +kernel) rfl
theorem slL_row : Cond.selects RX12 yX12_row yX12_row ∈ lw_g := mt_at 2351 (by decide +kernel) rfl
theorem cwL_166 : cCw RL 166 yX11_frame cX11_frame 4 (some .int) 2 := ⟨kd_11_frame, mt_at 1525 (by decide +kernel) rfl, mt_at 1 (by decide +kernel) rfl, by decide +kernel⟩
theorem cdL_frame : Cond.code yX12_frame cX12_frame 4 (some .int) ∈ lw_g := mt_at 2356 (by decide +kernel) rfl
theorem cwL_169 : cCw RL 169 yX12_frame cX12_frame 4 (some .int) 2 := ⟨cdL_frame, mt_at 2353 (by decide +kernel) rfl, mt_at 11 (by decide +kernel) rfl, by decide +kernel⟩
theorem imL_frame : Cond.instanceMethod yX12_frame ∈ lw_g := mt_at 2354 (by decide +kernel) rfl
theorem slL_frame : Cond.selects RX12 yX12_frame yX12_frame ∈ lw_g := mt_at 2355 (by decide +kernel) rfl
theorem cwL_170 : cCw RL 170 yX11_news cX11_news 4 (some .int) 3 := ⟨kd_11_news, mt_at 1529 (by decide +kernel) rfl, mt_at 1 (by decide +kernel) rfl, by decide +kernel⟩
theorem cdL_news : Cond.code yX12_news cX12_news 5 (some .int) ∈ lw_g := mt_at 2360 (by decide +kernel) rfl
theorem cwL_173 : cCw RL 173 yX12_news cX12_news 5 (some .int) 3 := ⟨cdL_news, mt_at 2357 (by decide +kernel) rfl, mt_at 11 (by decide +kernel) rfl, by decide +kernel⟩
theorem imL_news : Cond.instanceMethod yX12_news ∈ lw_g := mt_at 2358 (by decide +kernel) rfl
theorem slL_news : Cond.selects RX12 yX12_news yX12_news ∈ lw_g := mt_at 2359 (by decide +kernel) rfl
theorem cwL_174 : cCw RL 174 yX11_calm cX11_calm 3 (some .int) 1 := ⟨kd_11_calm, mt_at 1533 (by decide +kernel) rfl, mt_at 1 (by decide +kernel) rfl, by decide +kernel⟩
theorem cdL_calm : Cond.code yX12_calm cX12_calm 3 (some .int) ∈ lw_g := mt_at 2364 (by decide +kernel) rfl
theorem cwL_177 : cCw RL 177 yX12_calm cX12_calm 3 (some .int) 1 := ⟨cdL_calm, mt_at 2361 (by decide +kernel) rfl, mt_at 11 (by decide +kernel) rfl, by decide +kernel⟩
theorem imL_calm : Cond.instanceMethod yX12_calm ∈ lw_g := mt_at 2362 (by decide +kernel) rfl
theorem slL_calm : Cond.selects RX12 yX12_calm yX12_calm ∈ lw_g := mt_at 2363 (by decide +kernel) rfl
theorem cwL_178 : cCw RL 178 yX11_node cX11_node 4 (some .int) 2 := ⟨kd_11_node, mt_at 1537 (by decide +kernel) rfl, mt_at 1 (by decide +kernel) rfl, by decide +kernel⟩
theorem cdL_node : Cond.code yX12_node cX12_node 3 (some .int) ∈ lw_g := mt_at 2368 (by decide +kernel) rfl
theorem cwL_181 : cCw RL 181 yX12_node cX12_node 3 (some .int) 2 := ⟨cdL_node, mt_at 2365 (by decide +kernel) rfl, mt_at 11 (by decide +kernel) rfl, by decide +kernel⟩
theorem imL_node : Cond.instanceMethod yX12_node ∈ lw_g := mt_at 2366 (by decide +kernel) rfl
theorem slL_node : Cond.selects RX12 yX12_node yX12_node ∈ lw_g := mt_at 2367 (by decide +kernel) rfl
theorem cwL_182 : cCw RL 182 yX11_total cX11_total 2 (some .int) 1 := ⟨kd_11_total, mt_at 1549 (by decide +kernel) rfl, mt_at 1 (by decide +kernel) rfl, by decide +kernel⟩
theorem cdL_total : Cond.code yX12_total cX12_total 2 (some .int) ∈ lw_g := mt_at 2380 (by decide +kernel) rfl
theorem cwL_185 : cCw RL 185 yX12_total cX12_total 2 (some .int) 1 := ⟨cdL_total, mt_at 2377 (by decide +kernel) rfl, mt_at 11 (by decide +kernel) rfl, by decide +kernel⟩
theorem imL_total : Cond.instanceMethod yX12_total ∈ lw_g := mt_at 2378 (by decide +kernel) rfl
theorem slL_total : Cond.selects RX12 yX12_total yX12_total ∈ lw_g := mt_at 2379 (by decide +kernel) rfl
theorem cwL_7 : cCw RL 7 yX11_kind cX11_kind 2 (some .int) 0 := ⟨kd_11_kind, mt_at 1562 (by decide +kernel) rfl, mt_at 1 (by decide +kernel) rfl, by decide +kernel⟩
theorem cwL_17 : cCw RL 17 yX11_value cX11_value 10 (some .int) 4 := ⟨kd_11_value, mt_at 1646 (by decide +kernel) rfl, mt_at 1 (by decide +kernel) rfl, by decide +kernel⟩
theorem cwL_23 : cCw RL 23 yX11_bound cX11_bound 7 (some .int) 4 := ⟨kd_11_bound, mt_at 1671 (by decide +kernel) rfl, mt_at 1 (by decide +kernel) rfl, by decide +kernel⟩
theorem cwL_26 : cCw RL 26 yX11_past cX11_past 9 (some .int) 4 := ⟨kd_11_past, mt_at 1680 (by decide +kernel) rfl, mt_at 1 (by decide +kernel) rfl, by decide +kernel⟩
set_option maxRecDepth 100000 in
set_option maxHeartbeats 4000000 in
theorem tl_kind (l : Launch) (hl0 : l.stackTraces = false) {D : cG} {S S9 : cSt} {x0 oa tg : Nat} {cL : ClassId} {o : Int64} {r : Int32} (h : fk_11_kind S x0 = some (tg, r, S9)) (ht : tg = 0 ∨ tg = 1 ∨ tg = 2) (hk : kK S x0 = 12) (h0 : kK S oa = 0) (hD : D.2.2.2.1 oa = none) : Met l yL_kind (Cond.codeWith yL_kind cL_kind 3 (some .int) hhL_kind :: lw_g) { frames := 7, cells := 1, slots := 6, locals := 170 } (lPk [.ref x0, .ref oa] D S oa cL o) (lQk (lkc tg) (if tg = 0 then Int32.toInt64 r else o) D S oa cL (lG tg S9)) 1 6 (lFr S oa) := by
  refine va_MetW (cc := cL_kind) (maxL := 3) (ret := some .int) (hh := hhL_kind) (by decide) rfl ?_
  intro p e s m args below meth c s₁ B hml hv
  obtain ⟨rfl, hW, X, hU, ho, hA, hN⟩ := hv
  have C : cY p (headSpec (Cond.codeWith yL_kind cL_kind 3 (some .int) hhL_kind :: lw_g) { frames := 7, cells := 1, slots := 6, locals := 170 }).room s m _ meth c RL cL_kind 3 7 1 6 170 (some .int) := ⟨B.exec, B.bytes, hml, findClass_of_methodNamed B.named, fun w hw => atoms_spec (ws := Cond.codeWith yL_kind cL_kind 3 (some .int) hhL_kind :: lw_g) B.pre w (List.mem_cons_of_mem _ hw), ⟨Nat.le_refl _, Nat.le_refl _, Nat.le_refl _, Nat.le_refl _⟩, B.returns, B.notSynchronized⟩
  have htab : c.exceptionTable.toList = tableOf hhL_kind := vx_table (x := yL_kind) B (atoms_spec (ws := Cond.codeWith yL_kind cL_kind 3 (some .int) hhL_kind :: lw_g) B.pre _ List.mem_cons_self)
  have hlt := ho.lt hW
  have hlocks := C.2.2.2.2.2.2.2
  have hl := lv_entry ([.ref x0, .ref oa]) (n := 3) (Nat.le_of_ble_eq_true rfl)
  rw [lg_entry_eq]
  generalize (lg_sl ([.ref x0, .ref oa]) ++ List.replicate (3 - (lg_sl ([.ref x0, .ref oa])).length) Slot.unset).toArray = ls at hl ⊢
  have hl : lv_has ls 3 [(0, .ref x0), (1, .ref oa)] := hl
  refine lv_aload_n C.1 C.2.1 dL_kind_0 rfl (lv_at hl 1 rfl) ?_
  refine lv_iconst (v := 0) C.1 C.2.1 dL_kind_1 (by decide) ?_
  refine lv_aload_n C.1 C.2.1 dL_kind_2 rfl (lv_at hl 0 rfl) ?_
  refine l_thr (rest := [.int 0, .ref oa]) (a := (Value.ref x0 :: []).toArray) (vx_runV (As := []) (rest := [.int 0, .ref oa]) (Ts := lw_g) ⟨C.1, C.2.1, C.2.2.1, C.2.2.2.1, C.2.2.2.2.1⟩ (tk_11_kind l hl0 h) ⟨c_cb C cwL_7 ⟨by decide, by decide⟩, C.2.2.2.2.1 _ ki_11_kind, C.2.2.2.2.1 _ kl_11_kind⟩ ⟨kPt.blind, hW.recv X 11 (by decide) hk, fun U hU' hWm => ⟨rfl, by rw [hU']; exact hW, X.warm hWm, by rw [hU']; exact hU.warm hWm (fun _ _ _ => rfl) (fun _ h => h)⟩⟩ rfl rfl hl.1 rfl (lv_room (Nat.le_of_ble_eq_true rfl)) dL_kind_3 ⟨by decide, by decide⟩) (cJ.rf hW) (fun ht0 H1 locs1 hJ hfr => ?_) (fun ht0 H1 locs1 q ce hn hJ hfr hce hcv hcl => ?_)
  · refine W.eq (g2 := F0 m 6 ls [.int r, .int 0, .ref oa]) rfl ?_
    refine lv_i2l (v := Int32.toInt64 r) C.1 C.2.1 dL_kind_6 rfl ?_
    refine l_last C hA (ho.kept (hfr oa hlt (by rw [h0]; exact k0))) dL_kind_7 (fun H2 ho2 hz2 oq2 => ?_)
    refine lv_goto (tgt := 17) C.1 C.2.1 dL_kind_8 (by decide) ?_
    refine lv_iconst (v := 0) C.1 C.2.1 dL_kind_17 (by decide) ?_
    rw [if_pos ht0, show lkc tg = 0 by rw [ht0]; rfl]
    exact W.iret C.1 C.2.1 C.2.2.2.2.2.2.1 (fun t ht9 _ => lQ_ret hJ h0 hlt hD hfr ho2 hz2 oq2 ht9 0 ht0) (fun q hq => by rcases List.mem_append.mp hq with h9 | h9; exact Or.inl (hJ.2.2.1 q h9); exact Or.inr (by rw [List.mem_singleton.mp h9])) dL_kind_18
  · rw [if_neg ht0]
    rcases ht with ht | ht | ht
    · exact absurd ht ht0
    · subst ht
      refine vx_catch (own := RL) (name := kEx 1) (E := kEx 1) C.2.2.2.1 [] ⟨0, 8, 11, 13⟩ [⟨0, 8, 14, 15⟩] (htab.trans rfl) (fun z hz => nomatch hz) (by decide) (by decide) (C.2.2.2.2.1 _ xcL_13) (va_Nw.use (kXw_on _ (by decide +kernel)) (hU.1 _ (by decide +kernel))) hce hcv hcl ?_
      refine lv_astore_n (lv' := [(2, .ref q), (0, .ref x0), (1, .ref oa)]) C.1 C.2.1 dL_kind_11 rfl hl (by decide) rfl (fun ls hl => ?_)
      refine lv_iconst (v := 1) C.1 C.2.1 dL_kind_12 (by decide) ?_
      exact W.iret C.1 C.2.1 C.2.2.2.2.2.2.1 (fun t ht9 _ => lQ_thr hJ hn h0 hlt hfr ho ht9 1) (fun q hq => Or.inl (hJ.2.2.1 q hq)) dL_kind_13
    · subst ht
      refine vx_catch (own := RL) (name := kEx 2) (E := kEx 2) C.2.2.2.1 [⟨0, 8, 11, 13⟩] ⟨0, 8, 14, 15⟩ [] (htab.trans rfl) (fun z hz => by rw [List.mem_singleton.mp hz]; exact Or.inr ⟨by decide, kEx 1, C.2.2.2.2.1 _ xcL_13, hN⟩) (by decide) (by decide) (C.2.2.2.2.1 _ xcL_15) (va_Nw.use (kXw_on _ (by decide +kernel)) (hU.1 _ (by decide +kernel))) hce hcv hcl ?_
      refine lv_astore_n (lv' := [(2, .ref q), (0, .ref x0), (1, .ref oa)]) C.1 C.2.1 dL_kind_14 rfl hl (by decide) rfl (fun ls hl => ?_)
      refine lv_iconst (v := 2) C.1 C.2.1 dL_kind_15 (by decide) ?_
      exact W.iret C.1 C.2.1 C.2.2.2.2.2.2.1 (fun t ht9 _ => lQ_thr hJ hn h0 hlt hfr ho ht9 2) (fun q hq => Or.inl (hJ.2.2.1 q hq)) dL_kind_16
set_option maxRecDepth 100000 in
set_option maxHeartbeats 4000000 in
theorem tl_value (l : Launch) (hl0 : l.stackTraces = false) {D : cG} {S S9 : cSt} {x0 oa tg : Nat} {cL : ClassId} {o : Int64} {r : Int32} {v1 : Int32} {v2 : Int32} {v3 : Int32} {v4 : Int32} (h : fk_11_value S x0 v1 v2 v3 v4 = some (tg, r, S9)) (ht : tg = 0 ∨ tg = 3) (hk : kK S x0 = 12) (h0 : kK S oa = 0) (hD : D.2.2.2.1 oa = none) : Met l yL_value (Cond.codeWith yL_value cL_value 7 (some .int) hhL_value :: lw_g) { frames := 7, cells := 1, slots := 6, locals := 121 } (lPk [.ref x0, .int v1, .int v2, .int v3, .int v4, .ref oa] D S oa cL o) (lQk (lkv tg) (if tg = 0 then Int32.toInt64 r else o) D S oa cL (lG tg S9)) 1 6 (lFr S oa) := by
  refine va_MetW (cc := cL_value) (maxL := 7) (ret := some .int) (hh := hhL_value) (by decide) rfl ?_
  intro p e s m args below meth c s₁ B hml hv
  obtain ⟨rfl, hW, X, hU, ho, hA, hN⟩ := hv
  have C : cY p (headSpec (Cond.codeWith yL_value cL_value 7 (some .int) hhL_value :: lw_g) { frames := 7, cells := 1, slots := 6, locals := 121 }).room s m _ meth c RL cL_value 7 7 1 6 121 (some .int) := ⟨B.exec, B.bytes, hml, findClass_of_methodNamed B.named, fun w hw => atoms_spec (ws := Cond.codeWith yL_value cL_value 7 (some .int) hhL_value :: lw_g) B.pre w (List.mem_cons_of_mem _ hw), ⟨Nat.le_refl _, Nat.le_refl _, Nat.le_refl _, Nat.le_refl _⟩, B.returns, B.notSynchronized⟩
  have htab : c.exceptionTable.toList = tableOf hhL_value := vx_table (x := yL_value) B (atoms_spec (ws := Cond.codeWith yL_value cL_value 7 (some .int) hhL_value :: lw_g) B.pre _ List.mem_cons_self)
  have hlt := ho.lt hW
  have hlocks := C.2.2.2.2.2.2.2
  have hl := lv_entry ([.ref x0, .int v1, .int v2, .int v3, .int v4, .ref oa]) (n := 7) (Nat.le_of_ble_eq_true rfl)
  rw [lg_entry_eq]
  generalize (lg_sl ([.ref x0, .int v1, .int v2, .int v3, .int v4, .ref oa]) ++ List.replicate (7 - (lg_sl ([.ref x0, .int v1, .int v2, .int v3, .int v4, .ref oa])).length) Slot.unset).toArray = ls at hl ⊢
  have hl : lv_has ls 7 [(0, .ref x0), (1, .int v1), (2, .int v2), (3, .int v3), (4, .int v4), (5, .ref oa)] := hl
  refine lv_aload C.1 C.2.1 dL_value_0 (lv_at hl 5 rfl) ?_
  refine lv_iconst (v := 0) C.1 C.2.1 dL_value_2 (by decide) ?_
  refine lv_aload_n C.1 C.2.1 dL_value_3 rfl (lv_at hl 0 rfl) ?_
  refine lv_iload_n C.1 C.2.1 dL_value_4 rfl (lv_at hl 1 rfl) ?_
  refine lv_iload_n C.1 C.2.1 dL_value_5 rfl (lv_at hl 2 rfl) ?_
  refine lv_iload_n C.1 C.2.1 dL_value_6 rfl (lv_at hl 3 rfl) ?_
  refine lv_iload C.1 C.2.1 dL_value_7 (lv_at hl 4 rfl) ?_
  refine l_thr (rest := [.int 0, .ref oa]) (a := (Value.ref x0 :: [.int v1, .int v2, .int v3, .int v4]).toArray) (vx_runV (As := [.int v1, .int v2, .int v3, .int v4]) (rest := [.int 0, .ref oa]) (Ts := lw_g) ⟨C.1, C.2.1, C.2.2.1, C.2.2.2.1, C.2.2.2.2.1⟩ (tk_11_value l hl0 h) ⟨c_cb C cwL_17 ⟨by decide, by decide⟩, C.2.2.2.2.1 _ ki_11_value, C.2.2.2.2.1 _ kl_11_value⟩ ⟨kPt.blind, hW.recv X 11 (by decide) hk, fun U hU' hWm => ⟨rfl, by rw [hU']; exact hW, X.warm hWm, by rw [hU']; exact hU.warm hWm (fun _ _ _ => rfl) (fun _ h => h)⟩⟩ rfl rfl hl.1 rfl (lv_room (Nat.le_of_ble_eq_true rfl)) dL_value_9 ⟨by decide, by decide⟩) (cJ.rf hW) (fun ht0 H1 locs1 hJ hfr => ?_) (fun ht0 H1 locs1 q ce hn hJ hfr hce hcv hcl => ?_)
  · refine W.eq (g2 := F0 m 12 ls [.int r, .int 0, .ref oa]) rfl ?_
    refine lv_i2l (v := Int32.toInt64 r) C.1 C.2.1 dL_value_12 rfl ?_
    refine l_last C hA (ho.kept (hfr oa hlt (by rw [h0]; exact k0))) dL_value_13 (fun H2 ho2 hz2 oq2 => ?_)
    refine lv_goto (tgt := 21) C.1 C.2.1 dL_value_14 (by decide) ?_
    refine lv_iconst (v := 0) C.1 C.2.1 dL_value_21 (by decide) ?_
    rw [if_pos ht0, show lkv tg = 0 by rw [ht0]; rfl]
    exact W.iret C.1 C.2.1 C.2.2.2.2.2.2.1 (fun t ht9 _ => lQ_ret hJ h0 hlt hD hfr ho2 hz2 oq2 ht9 0 ht0) (fun q hq => by rcases List.mem_append.mp hq with h9 | h9; exact Or.inl (hJ.2.2.1 q h9); exact Or.inr (by rw [List.mem_singleton.mp h9])) dL_value_22
  · rw [if_neg ht0]
    rcases ht with ht | ht
    · exact absurd ht ht0
    · subst ht
      refine vx_catch (own := RL) (name := kEx 3) (E := kEx 3) C.2.2.2.1 [] ⟨0, 14, 17, 21⟩ [] (htab.trans rfl) (fun z hz => nomatch hz) (by decide) (by decide) (C.2.2.2.2.1 _ xcL_21) (va_Nw.use (kXw_on _ (by decide +kernel)) (hU.1 _ (by decide +kernel))) hce hcv hcl ?_
      refine lv_astore (lv' := [(6, .ref q), (0, .ref x0), (1, .int v1), (2, .int v2), (3, .int v3), (4, .int v4), (5, .ref oa)]) C.1 C.2.1 dL_value_17 hl (by decide) rfl (fun ls hl => ?_)
      refine lv_iconst (v := 1) C.1 C.2.1 dL_value_19 (by decide) ?_
      exact W.iret C.1 C.2.1 C.2.2.2.2.2.2.1 (fun t ht9 _ => lQ_thr hJ hn h0 hlt hfr ho ht9 1) (fun q hq => Or.inl (hJ.2.2.1 q hq)) dL_value_20
set_option maxRecDepth 100000 in
set_option maxHeartbeats 4000000 in
theorem tl_bound (l : Launch) (hl0 : l.stackTraces = false) {D : cG} {S S9 : cSt} {x0 oa tg : Nat} {cL : ClassId} {o : Int64} {r : Int32} {v1 : Int32} {v2 : Int32} {v3 : Int32} {v4 : Int32} (h : fk_11_bound S x0 v1 v2 v3 v4 = some (tg, r, S9)) (ht : tg = 0 ∨ tg = 3) (hk : kK S x0 = 12) (h0 : kK S oa = 0) (hD : D.2.2.2.1 oa = none) : Met l yL_bound (Cond.codeWith yL_bound cL_bound 7 (some .int) hhL_bound :: lw_g) { frames := 7, cells := 1, slots := 6, locals := 116 } (lPk [.ref x0, .int v1, .int v2, .int v3, .int v4, .ref oa] D S oa cL o) (lQk (lkv tg) (if tg = 0 then Int32.toInt64 r else o) D S oa cL (lG tg S9)) 1 6 (lFr S oa) := by
  refine va_MetW (cc := cL_bound) (maxL := 7) (ret := some .int) (hh := hhL_bound) (by decide) rfl ?_
  intro p e s m args below meth c s₁ B hml hv
  obtain ⟨rfl, hW, X, hU, ho, hA, hN⟩ := hv
  have C : cY p (headSpec (Cond.codeWith yL_bound cL_bound 7 (some .int) hhL_bound :: lw_g) { frames := 7, cells := 1, slots := 6, locals := 116 }).room s m _ meth c RL cL_bound 7 7 1 6 116 (some .int) := ⟨B.exec, B.bytes, hml, findClass_of_methodNamed B.named, fun w hw => atoms_spec (ws := Cond.codeWith yL_bound cL_bound 7 (some .int) hhL_bound :: lw_g) B.pre w (List.mem_cons_of_mem _ hw), ⟨Nat.le_refl _, Nat.le_refl _, Nat.le_refl _, Nat.le_refl _⟩, B.returns, B.notSynchronized⟩
  have htab : c.exceptionTable.toList = tableOf hhL_bound := vx_table (x := yL_bound) B (atoms_spec (ws := Cond.codeWith yL_bound cL_bound 7 (some .int) hhL_bound :: lw_g) B.pre _ List.mem_cons_self)
  have hlt := ho.lt hW
  have hlocks := C.2.2.2.2.2.2.2
  have hl := lv_entry ([.ref x0, .int v1, .int v2, .int v3, .int v4, .ref oa]) (n := 7) (Nat.le_of_ble_eq_true rfl)
  rw [lg_entry_eq]
  generalize (lg_sl ([.ref x0, .int v1, .int v2, .int v3, .int v4, .ref oa]) ++ List.replicate (7 - (lg_sl ([.ref x0, .int v1, .int v2, .int v3, .int v4, .ref oa])).length) Slot.unset).toArray = ls at hl ⊢
  have hl : lv_has ls 7 [(0, .ref x0), (1, .int v1), (2, .int v2), (3, .int v3), (4, .int v4), (5, .ref oa)] := hl
  refine lv_aload C.1 C.2.1 dL_bound_0 (lv_at hl 5 rfl) ?_
  refine lv_iconst (v := 0) C.1 C.2.1 dL_bound_2 (by decide) ?_
  refine lv_aload_n C.1 C.2.1 dL_bound_3 rfl (lv_at hl 0 rfl) ?_
  refine lv_iload_n C.1 C.2.1 dL_bound_4 rfl (lv_at hl 1 rfl) ?_
  refine lv_iload_n C.1 C.2.1 dL_bound_5 rfl (lv_at hl 2 rfl) ?_
  refine lv_iload_n C.1 C.2.1 dL_bound_6 rfl (lv_at hl 3 rfl) ?_
  refine lv_iload C.1 C.2.1 dL_bound_7 (lv_at hl 4 rfl) ?_
  refine l_thr (rest := [.int 0, .ref oa]) (a := (Value.ref x0 :: [.int v1, .int v2, .int v3, .int v4]).toArray) (vx_runV (As := [.int v1, .int v2, .int v3, .int v4]) (rest := [.int 0, .ref oa]) (Ts := lw_g) ⟨C.1, C.2.1, C.2.2.1, C.2.2.2.1, C.2.2.2.2.1⟩ (tk_11_bound l hl0 h) ⟨c_cb C cwL_23 ⟨by decide, by decide⟩, C.2.2.2.2.1 _ ki_11_bound, C.2.2.2.2.1 _ kl_11_bound⟩ ⟨kPt.blind, hW.recv X 11 (by decide) hk, fun U hU' hWm => ⟨rfl, by rw [hU']; exact hW, X.warm hWm, by rw [hU']; exact hU.warm hWm (fun _ _ _ => rfl) (fun _ h => h)⟩⟩ rfl rfl hl.1 rfl (lv_room (Nat.le_of_ble_eq_true rfl)) dL_bound_9 ⟨by decide, by decide⟩) (cJ.rf hW) (fun ht0 H1 locs1 hJ hfr => ?_) (fun ht0 H1 locs1 q ce hn hJ hfr hce hcv hcl => ?_)
  · refine W.eq (g2 := F0 m 12 ls [.int r, .int 0, .ref oa]) rfl ?_
    refine lv_i2l (v := Int32.toInt64 r) C.1 C.2.1 dL_bound_12 rfl ?_
    refine l_last C hA (ho.kept (hfr oa hlt (by rw [h0]; exact k0))) dL_bound_13 (fun H2 ho2 hz2 oq2 => ?_)
    refine lv_goto (tgt := 21) C.1 C.2.1 dL_bound_14 (by decide) ?_
    refine lv_iconst (v := 0) C.1 C.2.1 dL_bound_21 (by decide) ?_
    rw [if_pos ht0, show lkv tg = 0 by rw [ht0]; rfl]
    exact W.iret C.1 C.2.1 C.2.2.2.2.2.2.1 (fun t ht9 _ => lQ_ret hJ h0 hlt hD hfr ho2 hz2 oq2 ht9 0 ht0) (fun q hq => by rcases List.mem_append.mp hq with h9 | h9; exact Or.inl (hJ.2.2.1 q h9); exact Or.inr (by rw [List.mem_singleton.mp h9])) dL_bound_22
  · rw [if_neg ht0]
    rcases ht with ht | ht
    · exact absurd ht ht0
    · subst ht
      refine vx_catch (own := RL) (name := kEx 3) (E := kEx 3) C.2.2.2.1 [] ⟨0, 14, 17, 21⟩ [] (htab.trans rfl) (fun z hz => nomatch hz) (by decide) (by decide) (C.2.2.2.2.1 _ xcL_21) (va_Nw.use (kXw_on _ (by decide +kernel)) (hU.1 _ (by decide +kernel))) hce hcv hcl ?_
      refine lv_astore (lv' := [(6, .ref q), (0, .ref x0), (1, .int v1), (2, .int v2), (3, .int v3), (4, .int v4), (5, .ref oa)]) C.1 C.2.1 dL_bound_17 hl (by decide) rfl (fun ls hl => ?_)
      refine lv_iconst (v := 1) C.1 C.2.1 dL_bound_19 (by decide) ?_
      exact W.iret C.1 C.2.1 C.2.2.2.2.2.2.1 (fun t ht9 _ => lQ_thr hJ hn h0 hlt hfr ho ht9 1) (fun q hq => Or.inl (hJ.2.2.1 q hq)) dL_bound_20
set_option maxRecDepth 100000 in
set_option maxHeartbeats 4000000 in
theorem tl_past (l : Launch) (hl0 : l.stackTraces = false) {D : cG} {S S9 : cSt} {x0 oa tg : Nat} {cL : ClassId} {o : Int64} {r : Int32} {v1 : Int32} {v2 : Int32} {v3 : Int32} {v4 : Int32} (h : fk_11_past S x0 v1 v2 v3 v4 = some (tg, r, S9)) (ht : tg = 0 ∨ tg = 3) (hk : kK S x0 = 12) (h0 : kK S oa = 0) (hD : D.2.2.2.1 oa = none) : Met l yL_past (Cond.codeWith yL_past cL_past 7 (some .int) hhL_past :: lw_g) { frames := 7, cells := 1, slots := 6, locals := 118 } (lPk [.ref x0, .int v1, .int v2, .int v3, .int v4, .ref oa] D S oa cL o) (lQk (lkv tg) (if tg = 0 then Int32.toInt64 r else o) D S oa cL (lG tg S9)) 1 6 (lFr S oa) := by
  refine va_MetW (cc := cL_past) (maxL := 7) (ret := some .int) (hh := hhL_past) (by decide) rfl ?_
  intro p e s m args below meth c s₁ B hml hv
  obtain ⟨rfl, hW, X, hU, ho, hA, hN⟩ := hv
  have C : cY p (headSpec (Cond.codeWith yL_past cL_past 7 (some .int) hhL_past :: lw_g) { frames := 7, cells := 1, slots := 6, locals := 118 }).room s m _ meth c RL cL_past 7 7 1 6 118 (some .int) := ⟨B.exec, B.bytes, hml, findClass_of_methodNamed B.named, fun w hw => atoms_spec (ws := Cond.codeWith yL_past cL_past 7 (some .int) hhL_past :: lw_g) B.pre w (List.mem_cons_of_mem _ hw), ⟨Nat.le_refl _, Nat.le_refl _, Nat.le_refl _, Nat.le_refl _⟩, B.returns, B.notSynchronized⟩
  have htab : c.exceptionTable.toList = tableOf hhL_past := vx_table (x := yL_past) B (atoms_spec (ws := Cond.codeWith yL_past cL_past 7 (some .int) hhL_past :: lw_g) B.pre _ List.mem_cons_self)
  have hlt := ho.lt hW
  have hlocks := C.2.2.2.2.2.2.2
  have hl := lv_entry ([.ref x0, .int v1, .int v2, .int v3, .int v4, .ref oa]) (n := 7) (Nat.le_of_ble_eq_true rfl)
  rw [lg_entry_eq]
  generalize (lg_sl ([.ref x0, .int v1, .int v2, .int v3, .int v4, .ref oa]) ++ List.replicate (7 - (lg_sl ([.ref x0, .int v1, .int v2, .int v3, .int v4, .ref oa])).length) Slot.unset).toArray = ls at hl ⊢
  have hl : lv_has ls 7 [(0, .ref x0), (1, .int v1), (2, .int v2), (3, .int v3), (4, .int v4), (5, .ref oa)] := hl
  refine lv_aload C.1 C.2.1 dL_past_0 (lv_at hl 5 rfl) ?_
  refine lv_iconst (v := 0) C.1 C.2.1 dL_past_2 (by decide) ?_
  refine lv_aload_n C.1 C.2.1 dL_past_3 rfl (lv_at hl 0 rfl) ?_
  refine lv_iload_n C.1 C.2.1 dL_past_4 rfl (lv_at hl 1 rfl) ?_
  refine lv_iload_n C.1 C.2.1 dL_past_5 rfl (lv_at hl 2 rfl) ?_
  refine lv_iload_n C.1 C.2.1 dL_past_6 rfl (lv_at hl 3 rfl) ?_
  refine lv_iload C.1 C.2.1 dL_past_7 (lv_at hl 4 rfl) ?_
  refine l_thr (rest := [.int 0, .ref oa]) (a := (Value.ref x0 :: [.int v1, .int v2, .int v3, .int v4]).toArray) (vx_runV (As := [.int v1, .int v2, .int v3, .int v4]) (rest := [.int 0, .ref oa]) (Ts := lw_g) ⟨C.1, C.2.1, C.2.2.1, C.2.2.2.1, C.2.2.2.2.1⟩ (tk_11_past l hl0 h) ⟨c_cb C cwL_26 ⟨by decide, by decide⟩, C.2.2.2.2.1 _ ki_11_past, C.2.2.2.2.1 _ kl_11_past⟩ ⟨kPt.blind, hW.recv X 11 (by decide) hk, fun U hU' hWm => ⟨rfl, by rw [hU']; exact hW, X.warm hWm, by rw [hU']; exact hU.warm hWm (fun _ _ _ => rfl) (fun _ h => h)⟩⟩ rfl rfl hl.1 rfl (lv_room (Nat.le_of_ble_eq_true rfl)) dL_past_9 ⟨by decide, by decide⟩) (cJ.rf hW) (fun ht0 H1 locs1 hJ hfr => ?_) (fun ht0 H1 locs1 q ce hn hJ hfr hce hcv hcl => ?_)
  · refine W.eq (g2 := F0 m 12 ls [.int r, .int 0, .ref oa]) rfl ?_
    refine lv_i2l (v := Int32.toInt64 r) C.1 C.2.1 dL_past_12 rfl ?_
    refine l_last C hA (ho.kept (hfr oa hlt (by rw [h0]; exact k0))) dL_past_13 (fun H2 ho2 hz2 oq2 => ?_)
    refine lv_goto (tgt := 21) C.1 C.2.1 dL_past_14 (by decide) ?_
    refine lv_iconst (v := 0) C.1 C.2.1 dL_past_21 (by decide) ?_
    rw [if_pos ht0, show lkv tg = 0 by rw [ht0]; rfl]
    exact W.iret C.1 C.2.1 C.2.2.2.2.2.2.1 (fun t ht9 _ => lQ_ret hJ h0 hlt hD hfr ho2 hz2 oq2 ht9 0 ht0) (fun q hq => by rcases List.mem_append.mp hq with h9 | h9; exact Or.inl (hJ.2.2.1 q h9); exact Or.inr (by rw [List.mem_singleton.mp h9])) dL_past_22
  · rw [if_neg ht0]
    rcases ht with ht | ht
    · exact absurd ht ht0
    · subst ht
      refine vx_catch (own := RL) (name := kEx 3) (E := kEx 3) C.2.2.2.1 [] ⟨0, 14, 17, 21⟩ [] (htab.trans rfl) (fun z hz => nomatch hz) (by decide) (by decide) (C.2.2.2.2.1 _ xcL_21) (va_Nw.use (kXw_on _ (by decide +kernel)) (hU.1 _ (by decide +kernel))) hce hcv hcl ?_
      refine lv_astore (lv' := [(6, .ref q), (0, .ref x0), (1, .int v1), (2, .int v2), (3, .int v3), (4, .int v4), (5, .ref oa)]) C.1 C.2.1 dL_past_17 hl (by decide) rfl (fun ls hl => ?_)
      refine lv_iconst (v := 1) C.1 C.2.1 dL_past_19 (by decide) ?_
      exact W.iret C.1 C.2.1 C.2.2.2.2.2.2.1 (fun t ht9 _ => lQ_thr hJ hn h0 hlt hfr ho ht9 1) (fun q hq => Or.inl (hJ.2.2.1 q hq)) dL_past_20
