-- made by wip/whole/walk.py: the reference's total
theorem dX12_total_0 : decode cX12_total 0 = .ok (.aload_n 0, 1) := by decide +kernel
theorem dX12_total_1 : decode cX12_total 1 = .ok (.iconst 0, 1) := by decide +kernel
theorem dX12_total_2 : decode cX12_total 2 = .ok (.putfield 200, 3) := by decide +kernel
theorem dX12_total_5 : decode cX12_total 5 = .ok (.iload_n 1, 1) := by decide +kernel
theorem dX12_total_6 : decode cX12_total 6 = .ok (.tableswitch 91 0 5 #[38, 43, 48, 53, 58, 86], 38) := by decide +kernel
theorem dX12_total_44 : decode cX12_total 44 = .ok (.aload_n 0, 1) := by decide +kernel
theorem dX12_total_45 : decode cX12_total 45 = .ok (.getfield 212, 3) := by decide +kernel
theorem dX12_total_48 : decode cX12_total 48 = .ok (.ireturn, 1) := by decide +kernel
theorem dX12_total_49 : decode cX12_total 49 = .ok (.aload_n 0, 1) := by decide +kernel
theorem dX12_total_50 : decode cX12_total 50 = .ok (.getfield 203, 3) := by decide +kernel
theorem dX12_total_53 : decode cX12_total 53 = .ok (.ireturn, 1) := by decide +kernel
theorem dX12_total_54 : decode cX12_total 54 = .ok (.aload_n 0, 1) := by decide +kernel
theorem dX12_total_55 : decode cX12_total 55 = .ok (.getfield 428, 3) := by decide +kernel
theorem dX12_total_58 : decode cX12_total 58 = .ok (.ireturn, 1) := by decide +kernel
theorem dX12_total_59 : decode cX12_total 59 = .ok (.aload_n 0, 1) := by decide +kernel
theorem dX12_total_60 : decode cX12_total 60 = .ok (.getfield 482, 3) := by decide +kernel
theorem dX12_total_63 : decode cX12_total 63 = .ok (.ireturn, 1) := by decide +kernel
theorem dX12_total_64 : decode cX12_total 64 = .ok (.aload_n 0, 1) := by decide +kernel
theorem dX12_total_65 : decode cX12_total 65 = .ok (.getfield 23, 3) := by decide +kernel
theorem dX12_total_68 : decode cX12_total 68 = .ok (.iconst 0, 1) := by decide +kernel
theorem dX12_total_69 : decode cX12_total 69 = .ok (.iaload, 1) := by decide +kernel
theorem dX12_total_70 : decode cX12_total 70 = .ok (.aload_n 0, 1) := by decide +kernel
theorem dX12_total_71 : decode cX12_total 71 = .ok (.getfield 23, 3) := by decide +kernel
theorem dX12_total_74 : decode cX12_total 74 = .ok (.iconst 1, 1) := by decide +kernel
theorem dX12_total_75 : decode cX12_total 75 = .ok (.iaload, 1) := by decide +kernel
theorem dX12_total_76 : decode cX12_total 76 = .ok (.iadd, 1) := by decide +kernel
theorem dX12_total_77 : decode cX12_total 77 = .ok (.aload_n 0, 1) := by decide +kernel
theorem dX12_total_78 : decode cX12_total 78 = .ok (.getfield 23, 3) := by decide +kernel
theorem dX12_total_81 : decode cX12_total 81 = .ok (.iconst 2, 1) := by decide +kernel
theorem dX12_total_82 : decode cX12_total 82 = .ok (.iaload, 1) := by decide +kernel
theorem dX12_total_83 : decode cX12_total 83 = .ok (.iadd, 1) := by decide +kernel
theorem dX12_total_84 : decode cX12_total 84 = .ok (.aload_n 0, 1) := by decide +kernel
theorem dX12_total_85 : decode cX12_total 85 = .ok (.getfield 23, 3) := by decide +kernel
theorem dX12_total_88 : decode cX12_total 88 = .ok (.iconst 3, 1) := by decide +kernel
theorem dX12_total_89 : decode cX12_total 89 = .ok (.iaload, 1) := by decide +kernel
theorem dX12_total_90 : decode cX12_total 90 = .ok (.iadd, 1) := by decide +kernel
theorem dX12_total_91 : decode cX12_total 91 = .ok (.ireturn, 1) := by decide +kernel
theorem dX12_total_92 : decode cX12_total 92 = .ok (.aload_n 0, 1) := by decide +kernel
theorem dX12_total_93 : decode cX12_total 93 = .ok (.getfield 473, 3) := by decide +kernel
theorem dX12_total_96 : decode cX12_total 96 = .ok (.ireturn, 1) := by decide +kernel
theorem dX12_total_97 : decode cX12_total 97 = .ok (.iconst (-1), 1) := by decide +kernel
theorem dX12_total_98 : decode cX12_total 98 = .ok (.ireturn, 1) := by decide +kernel
theorem cd_total : Cond.code yX12_total cX12_total 2 (some .int) ∈ lw_g := mt_at 2380 (by decide +kernel) rfl
section
variable {p : Program} {l : Launch} {e : Env} {R : Room} {s : State} {m : MethodId} {args : Array Value} {below : List Frame} {meth : Method} {c : Code} {cM : ClassId} {iS : Nat → Nat} {cI cZ : ClassId} {mo : Nat} {ad : Nat → Nat} {r : Int32} {S9 : mSt}
noncomputable def fm_total (S : mSt) (v1 : Int32) : Option (Int32 × mSt) :=
lt (pu S 0 (0 : Int32)) fun S1 =>
if v1 = (0 : Int32) then (
some (S1.1 4, S1))
else if v1 = (1 : Int32) then (
some (S1.1 1, S1))
else if v1 = (2 : Int32) then (
some (S1.1 42, S1))
else if v1 = (3 : Int32) then (
some (S1.1 43, S1))
else if v1 = (4 : Int32) then (
ck (0 : Int32) 4 (
ck (1 : Int32) 4 (
ck (2 : Int32) 4 (
ck (3 : Int32) 4 (
some ((((rd S1 7 (0 : Int32)) + (rd S1 7 (1 : Int32))) + (rd S1 7 (2 : Int32))) + (rd S1 7 (3 : Int32)), S1))))))
else if v1 = (5 : Int32) then (
some (S1.1 44, S1))
else (
some ((-1 : Int32), S1))
set_option maxRecDepth 100000 in
set_option maxHeartbeats 4000000 in
theorem tm_total (l : Launch) {cM : ClassId} {iS : Nat → Nat} {cI cZ : ClassId} {mo : Nat} {ad : Nat → Nat} {S : mSt} {v1 : Int32} {r : Int32} {S9 : mSt} (h : fm_total S v1 = some (r, S9)) : Met l yX12_total (Cond.code yX12_total cX12_total 2 (some .int) :: lw_g) { frames := 0, cells := 0, slots := 0, locals := 0 } (mPi [.int v1] cM iS cI cZ mo ad S) (mQw (some (.int r)) cM iS cI cZ mo ad S9) 0 0 (mA mo ad) := by
  refine Met.ofW (cc := cX12_total) (maxL := 2) (ret := (some .int)) (by decide) rfl ?_
  intro p e s m args below meth c s₁ B hml hv
  obtain ⟨rfl, hW, X⟩ := hv
  have C : mY p (headSpec (Cond.code yX12_total cX12_total 2 (some .int) :: lw_g) { frames := 0, cells := 0, slots := 0, locals := 0 }).room s m _ meth c cX12_total 2 0 0 (some .int) := ⟨B.exec, B.bytes, hml, findClass_of_methodNamed B.named, fun w hw => atoms_spec (ws := Cond.code yX12_total cX12_total 2 (some .int) :: lw_g) B.pre w (List.mem_cons_of_mem _ hw), ⟨Nat.le_refl _, Nat.le_refl _⟩, B.returns, B.notSynchronized⟩
  have hl := lv_entry ([.ref mo, .int v1]) (n := 2) (Nat.le_of_ble_eq_true rfl)
  rw [lg_entry_eq]
  generalize (lg_sl ([.ref mo, .int v1]) ++ List.replicate (2 - (lg_sl ([.ref mo, .int v1])).length) Slot.unset).toArray = ls at hl ⊢
  have hl : lv_has ls 2 [(0, .ref mo), (1, .int v1)] := hl
  have hS : mS (mA mo ad) s.heap s.heap [] := mS.rf
  unfold fm_total at h
  refine lv_aload_n C.1 C.2.1 dX12_total_0 rfl (lv_at hl 0 rfl) ?_
  refine lv_iconst (v := 0) C.1 C.2.1 dX12_total_1 (by decide) ?_
  refine p_0 C X hW hS dX12_total_2 (fun H locs hW hS => ?_)
  refine lt_ok h (fun S1 e_S1 h => ?_)
  rw [e_S1] at hW
  refine lv_iload_n C.1 C.2.1 dX12_total_5 rfl (lv_at hl 1 rfl) ?_
  by_cases c2 : v1 = (0 : Int32)
  · have h := if_t h c2
    refine lv_tableIn (off := 38) (tgt := 44) C.1 C.2.1 dX12_total_6 (by rw [c2]; decide) (by rw [c2]; decide) (by rw [c2]; rfl) (by decide) ?_
    refine lv_aload_n C.1 C.2.1 dX12_total_44 rfl (lv_at hl 0 rfl) ?_
    refine gf_4 C X hW dX12_total_45 ?_
    cases h
    exact m_retiW C hW hS dX12_total_48
  · have h := if_f h c2
    by_cases c3 : v1 = (1 : Int32)
    · have h := if_t h c3
      refine lv_tableIn (off := 43) (tgt := 49) C.1 C.2.1 dX12_total_6 (by rw [c3]; decide) (by rw [c3]; decide) (by rw [c3]; rfl) (by decide) ?_
      refine lv_aload_n C.1 C.2.1 dX12_total_49 rfl (lv_at hl 0 rfl) ?_
      refine gf_1 C X hW dX12_total_50 ?_
      cases h
      exact m_retiW C hW hS dX12_total_53
    · have h := if_f h c3
      by_cases c4 : v1 = (2 : Int32)
      · have h := if_t h c4
        refine lv_tableIn (off := 48) (tgt := 54) C.1 C.2.1 dX12_total_6 (by rw [c4]; decide) (by rw [c4]; decide) (by rw [c4]; rfl) (by decide) ?_
        refine lv_aload_n C.1 C.2.1 dX12_total_54 rfl (lv_at hl 0 rfl) ?_
        refine gf_42 C X hW dX12_total_55 ?_
        cases h
        exact m_retiW C hW hS dX12_total_58
      · have h := if_f h c4
        by_cases c5 : v1 = (3 : Int32)
        · have h := if_t h c5
          refine lv_tableIn (off := 53) (tgt := 59) C.1 C.2.1 dX12_total_6 (by rw [c5]; decide) (by rw [c5]; decide) (by rw [c5]; rfl) (by decide) ?_
          refine lv_aload_n C.1 C.2.1 dX12_total_59 rfl (lv_at hl 0 rfl) ?_
          refine gf_43 C X hW dX12_total_60 ?_
          cases h
          exact m_retiW C hW hS dX12_total_63
        · have h := if_f h c5
          by_cases c6 : v1 = (4 : Int32)
          · have h := if_t h c6
            refine lv_tableIn (off := 58) (tgt := 64) C.1 C.2.1 dX12_total_6 (by rw [c6]; decide) (by rw [c6]; decide) (by rw [c6]; rfl) (by decide) ?_
            refine lv_aload_n C.1 C.2.1 dX12_total_64 rfl (lv_at hl 0 rfl) ?_
            refine gf_7 C X hW dX12_total_65 ?_
            refine lv_iconst (v := 0) C.1 C.2.1 dX12_total_68 (by decide) ?_
            obtain ⟨hin, h⟩ := ck_ok h
            refine l_7 C X hW hin dX12_total_69 ?_
            refine lv_aload_n C.1 C.2.1 dX12_total_70 rfl (lv_at hl 0 rfl) ?_
            refine gf_7 C X hW dX12_total_71 ?_
            refine lv_iconst (v := 1) C.1 C.2.1 dX12_total_74 (by decide) ?_
            obtain ⟨hin, h⟩ := ck_ok h
            refine l_7 C X hW hin dX12_total_75 ?_
            refine lv_iadd C.1 C.2.1 dX12_total_76 ?_
            refine lv_aload_n C.1 C.2.1 dX12_total_77 rfl (lv_at hl 0 rfl) ?_
            refine gf_7 C X hW dX12_total_78 ?_
            refine lv_iconst (v := 2) C.1 C.2.1 dX12_total_81 (by decide) ?_
            obtain ⟨hin, h⟩ := ck_ok h
            refine l_7 C X hW hin dX12_total_82 ?_
            refine lv_iadd C.1 C.2.1 dX12_total_83 ?_
            refine lv_aload_n C.1 C.2.1 dX12_total_84 rfl (lv_at hl 0 rfl) ?_
            refine gf_7 C X hW dX12_total_85 ?_
            refine lv_iconst (v := 3) C.1 C.2.1 dX12_total_88 (by decide) ?_
            obtain ⟨hin, h⟩ := ck_ok h
            refine l_7 C X hW hin dX12_total_89 ?_
            refine lv_iadd C.1 C.2.1 dX12_total_90 ?_
            cases h
            exact m_retiW C hW hS dX12_total_91
          · have h := if_f h c6
            by_cases c7 : v1 = (5 : Int32)
            · have h := if_t h c7
              refine lv_tableIn (off := 86) (tgt := 92) C.1 C.2.1 dX12_total_6 (by rw [c7]; decide) (by rw [c7]; decide) (by rw [c7]; rfl) (by decide) ?_
              refine lv_aload_n C.1 C.2.1 dX12_total_92 rfl (lv_at hl 0 rfl) ?_
              refine gf_44 C X hW dX12_total_93 ?_
              cases h
              exact m_retiW C hW hS dX12_total_96
            · have h := if_f h c7
              have n_c2 := lv_neT c2 (a := 0) rfl
              have n_c3 := lv_neT c3 (a := 1) rfl
              have n_c4 := lv_neT c4 (a := 2) rfl
              have n_c5 := lv_neT c5 (a := 3) rfl
              have n_c6 := lv_neT c6 (a := 4) rfl
              have n_c7 := lv_neT c7 (a := 5) rfl
              refine lv_tableOut (tgt := 97) C.1 C.2.1 dX12_total_6 (by omega) (by decide) ?_
              refine lv_iconst (v := -1) C.1 C.2.1 dX12_total_97 (by decide) ?_
              cases h
              exact m_retiW C hW hS dX12_total_98
end
