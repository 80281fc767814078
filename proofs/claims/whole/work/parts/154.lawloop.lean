def f_law_38 (xs : Nat → Int32) (L : Nat) : Nat → Nat → Nat → Int32 → Nat → Nat → Nat → xS → Option Unit
  | 0, _, _, _, _, _, _, _ => none
  | n + 1, a1, a2, x3, cc, uu, z, ω =>
    if ((nI L) - 5) < x3 then (
      some ())
    else (
      (ysc xs L x3).bind fun _ =>
      if ((xs (x3).toNatClampNeg) &&& 31) = 0 then (
        f_law_156 xs L (f_law_38 xs L n) a1 a2 x3 cc uu z ω)
      else (
      if ((xs (x3).toNatClampNeg) &&& 31) = 1 then (
        f_law_219 xs L (f_law_38 xs L n) a1 a2 x3 cc uu z ω)
      else (
      if ((xs (x3).toNatClampNeg) &&& 31) = 2 then (
        f_law_232 xs L (f_law_38 xs L n) a1 a2 x3 cc uu z ω)
      else (
      if ((xs (x3).toNatClampNeg) &&& 31) = 3 then (
        f_law_245 xs L (f_law_38 xs L n) a1 a2 x3 cc uu z ω)
      else (
      if ((xs (x3).toNatClampNeg) &&& 31) = 4 then (
        f_law_298 xs L (f_law_38 xs L n) a1 a2 x3 cc uu z ω)
      else (
      if ((xs (x3).toNatClampNeg) &&& 31) = 5 then (
        f_law_331 xs L (f_law_38 xs L n) a1 a2 x3 cc uu z ω)
      else (
      if ((xs (x3).toNatClampNeg) &&& 31) = 6 then (
        f_law_374 xs L (f_law_38 xs L n) a1 a2 x3 cc uu z ω)
      else (
      if ((xs (x3).toNatClampNeg) &&& 31) = 7 then (
        f_law_427 xs L (f_law_38 xs L n) a1 a2 x3 cc uu z ω)
      else (
      if ((xs (x3).toNatClampNeg) &&& 31) = 8 then (
        f_law_460 xs L (f_law_38 xs L n) a1 a2 x3 cc uu z ω)
      else (
      if ((xs (x3).toNatClampNeg) &&& 31) = 9 then (
        f_law_504 xs L (f_law_38 xs L n) a1 a2 x3 cc uu z ω)
      else (
      if ((xs (x3).toNatClampNeg) &&& 31) = 10 then (
        f_law_548 xs L (f_law_38 xs L n) a1 a2 x3 cc uu z ω)
      else (
      if ((xs (x3).toNatClampNeg) &&& 31) = 11 then (
        f_law_561 xs L (f_law_38 xs L n) a1 a2 x3 cc uu z ω)
      else (
      if ((xs (x3).toNatClampNeg) &&& 31) = 12 then (
        f_law_594 xs L (f_law_38 xs L n) a1 a2 x3 cc uu z ω)
      else (
      if ((xs (x3).toNatClampNeg) &&& 31) = 13 then (
        f_law_617 xs L (f_law_38 xs L n) a1 a2 x3 cc uu z ω)
      else (
      if ((xs (x3).toNatClampNeg) &&& 31) = 14 then (
        f_law_651 xs L (f_law_38 xs L n) a1 a2 x3 cc uu z ω)
      else (
      if ((xs (x3).toNatClampNeg) &&& 31) = 15 then (
        f_law_665 xs L (f_law_38 xs L n) a1 a2 x3 cc uu z ω)
      else (
      if ((xs (x3).toNatClampNeg) &&& 31) = 16 then (
        f_law_709 xs L (f_law_38 xs L n) a1 a2 x3 cc uu z ω)
      else (
      if ((xs (x3).toNatClampNeg) &&& 31) = 17 then (
        f_law_742 xs L (f_law_38 xs L n) a1 a2 x3 cc uu z ω)
      else (
      if ((xs (x3).toNatClampNeg) &&& 31) = 18 then (
        f_law_785 xs L (f_law_38 xs L n) a1 a2 x3 cc uu z ω)
      else (
      if ((xs (x3).toNatClampNeg) &&& 31) = 19 then (
        f_law_818 xs L (f_law_38 xs L n) a1 a2 x3 cc uu z ω)
      else (
      if ((xs (x3).toNatClampNeg) &&& 31) = 20 then (
        f_law_852 xs L (f_law_38 xs L n) a1 a2 x3 cc uu z ω)
      else (
      if ((xs (x3).toNatClampNeg) &&& 31) = 21 then (
        f_law_885 xs L (f_law_38 xs L n) a1 a2 x3 cc uu z ω)
      else (
      f_law_38 xs L n a1 a2 (x3 + 5) cc uu z ω)))))))))))))))))))))))
set_option maxHeartbeats 4000000 in
set_option maxRecDepth 100000 in
theorem w_law_38 {p : Program} {l : Launch} {e : Env} {s : State} {m : MethodId} {below : List Frame} {meth : Method} {c : Code} {E : xV} {b L : Nat} {xs : Nat → Int32} (S : CallFix p m c code 4 s #[Value.ref b] xTbl "RosterRulesLaw") (hr : meth.sig.returnType = ret) (hlocks : meth.locks = false) (hX : va_X b L xs s s.heap) (hbl : b < s.heap.size) (hE : E.2.2 = s.heap.size) : ∀ n : Nat, ∀ (a1 a2 : Nat) (x3 : Int32) (cc uu z : Nat) (ω : xS) (H : Heap) (locs : List Loc) (ls : Array Slot), cc ≤ 600000 → uu ≤ 7302250 → xW E z ω s s.heap H locs → lv_has ls 4 [(0, .ref b), (1, .ref a1), (2, .ref a2), (3, .int x3)] → f_law_38 xs L n a1 a2 x3 cc uu z ω = some () → W p l e room_1 s m #[Value.ref b] below meth c H locs cc uu (lw_Z below #[Value.ref b] s) (F0 m 38 ls []) := by
  intro n
  induction n with
  | zero =>
    intro a1 a2 x3 cc uu z ω H locs ls hcc huu hw hl hf
    have h2 : (none : Option Unit) = some () := hf
    cases h2
  | succ n ih =>
    intro a1 a2 x3 cc uu z ω H locs ls hcc huu hw hl hf
    have hbA : ¬ E.2.2 ≤ b := by rw [hE]; exact Nat.not_le.mpr hbl
    rw [f_law_38] at hf
    refine lv_iload_n S.1 S.2.1 d_Lw_law_38 rfl (lv_at hl 3 rfl) ?_
    refine lv_aload_n S.1 S.2.1 d_Lw_law_39 rfl (lv_at hl 0 rfl) ?_
    refine va_slen S.1 S.2.1 hX hbl hbA hw.2.2 d_Lw_law_40 ?_
    refine lv_iconst (v := 5) S.1 S.2.1 d_Lw_law_41 (by decide) ?_
    refine lv_isub S.1 S.2.1 d_Lw_law_42 ?_
    refine lv_icmp_gt (tgt := 914) S.1 S.2.1 d_Lw_law_43 (by decide) (fun c1 => ?_) (fun c1 => ?_)
    · replace hf := xt c1 hf
      refine lv_iconst (v := 1) S.1 S.2.1 d_Lw_law_914 (by decide) ?_
      refine va_forget (fun q hq => by have := hw.2.2.2.2 q hq; rw [hE] at this; exact this) ?_
      refine W.widen (k := 600000) (n := 7302250) (by (try dsimp only); omega) (by (try dsimp only); omega) ?_
      exact lw_ret S.1 S.2.1 hr hlocks d_Lw_law_915
    · replace hf := xf c1 hf
      refine lv_aload_n S.1 S.2.1 d_Lw_law_46 rfl (lv_at hl 0 rfl) ?_
      refine lv_iload_n S.1 S.2.1 d_Lw_law_47 rfl (lv_at hl 3 rfl) ?_
      obtain ⟨t2, ht2, hf⟩ := xb hf
      obtain ⟨hvt2, rfl⟩ := ysc_spec ht2
      refine va_sld S.1 S.2.1 hX hbl hbA hw.2.2 hvt2 d_Lw_law_48 ?_
      refine lv_bipush (v := 31) S.1 S.2.1 d_Lw_law_49 (by decide) ?_
      refine lv_iand S.1 S.2.1 d_Lw_law_51 ?_
      by_cases c3 : ((xs (x3).toNatClampNeg) &&& 31) = 0
      · replace hf := xt c3 hf
        refine lv_tableIn (tgt := 156) S.1 S.2.1 d_Lw_law_52 (by rw [c3]; decide) (by rw [c3]; decide) (by rw [c3]; rfl) (by decide) ?_
        exact w_law_156 S hr hlocks hX hbl hE ih _ _ _ _ _ _ _ _ _ _ hcc huu hw hl hf
      replace hf := xf c3 hf
      by_cases c4 : ((xs (x3).toNatClampNeg) &&& 31) = 1
      · replace hf := xt c4 hf
        refine lv_tableIn (tgt := 219) S.1 S.2.1 d_Lw_law_52 (by rw [c4]; decide) (by rw [c4]; decide) (by rw [c4]; rfl) (by decide) ?_
        exact w_law_219 S hr hlocks hX hbl hE ih _ _ _ _ _ _ _ _ _ _ hcc huu hw hl hf
      replace hf := xf c4 hf
      by_cases c5 : ((xs (x3).toNatClampNeg) &&& 31) = 2
      · replace hf := xt c5 hf
        refine lv_tableIn (tgt := 232) S.1 S.2.1 d_Lw_law_52 (by rw [c5]; decide) (by rw [c5]; decide) (by rw [c5]; rfl) (by decide) ?_
        exact w_law_232 S hr hlocks hX hbl hE ih _ _ _ _ _ _ _ _ _ _ hcc huu hw hl hf
      replace hf := xf c5 hf
      by_cases c6 : ((xs (x3).toNatClampNeg) &&& 31) = 3
      · replace hf := xt c6 hf
        refine lv_tableIn (tgt := 245) S.1 S.2.1 d_Lw_law_52 (by rw [c6]; decide) (by rw [c6]; decide) (by rw [c6]; rfl) (by decide) ?_
        exact w_law_245 S hr hlocks hX hbl hE ih _ _ _ _ _ _ _ _ _ _ hcc huu hw hl hf
      replace hf := xf c6 hf
      by_cases c7 : ((xs (x3).toNatClampNeg) &&& 31) = 4
      · replace hf := xt c7 hf
        refine lv_tableIn (tgt := 298) S.1 S.2.1 d_Lw_law_52 (by rw [c7]; decide) (by rw [c7]; decide) (by rw [c7]; rfl) (by decide) ?_
        exact w_law_298 S hr hlocks hX hbl hE ih _ _ _ _ _ _ _ _ _ _ hcc huu hw hl hf
      replace hf := xf c7 hf
      by_cases c8 : ((xs (x3).toNatClampNeg) &&& 31) = 5
      · replace hf := xt c8 hf
        refine lv_tableIn (tgt := 331) S.1 S.2.1 d_Lw_law_52 (by rw [c8]; decide) (by rw [c8]; decide) (by rw [c8]; rfl) (by decide) ?_
        exact w_law_331 S hr hlocks hX hbl hE ih _ _ _ _ _ _ _ _ _ _ hcc huu hw hl hf
      replace hf := xf c8 hf
      by_cases c9 : ((xs (x3).toNatClampNeg) &&& 31) = 6
      · replace hf := xt c9 hf
        refine lv_tableIn (tgt := 374) S.1 S.2.1 d_Lw_law_52 (by rw [c9]; decide) (by rw [c9]; decide) (by rw [c9]; rfl) (by decide) ?_
        exact w_law_374 S hr hlocks hX hbl hE ih _ _ _ _ _ _ _ _ _ _ hcc huu hw hl hf
      replace hf := xf c9 hf
      by_cases c10 : ((xs (x3).toNatClampNeg) &&& 31) = 7
      · replace hf := xt c10 hf
        refine lv_tableIn (tgt := 427) S.1 S.2.1 d_Lw_law_52 (by rw [c10]; decide) (by rw [c10]; decide) (by rw [c10]; rfl) (by decide) ?_
        exact w_law_427 S hr hlocks hX hbl hE ih _ _ _ _ _ _ _ _ _ _ hcc huu hw hl hf
      replace hf := xf c10 hf
      by_cases c11 : ((xs (x3).toNatClampNeg) &&& 31) = 8
      · replace hf := xt c11 hf
        refine lv_tableIn (tgt := 460) S.1 S.2.1 d_Lw_law_52 (by rw [c11]; decide) (by rw [c11]; decide) (by rw [c11]; rfl) (by decide) ?_
        exact w_law_460 S hr hlocks hX hbl hE ih _ _ _ _ _ _ _ _ _ _ hcc huu hw hl hf
      replace hf := xf c11 hf
      by_cases c12 : ((xs (x3).toNatClampNeg) &&& 31) = 9
      · replace hf := xt c12 hf
        refine lv_tableIn (tgt := 504) S.1 S.2.1 d_Lw_law_52 (by rw [c12]; decide) (by rw [c12]; decide) (by rw [c12]; rfl) (by decide) ?_
        exact w_law_504 S hr hlocks hX hbl hE ih _ _ _ _ _ _ _ _ _ _ hcc huu hw hl hf
      replace hf := xf c12 hf
      by_cases c13 : ((xs (x3).toNatClampNeg) &&& 31) = 10
      · replace hf := xt c13 hf
        refine lv_tableIn (tgt := 548) S.1 S.2.1 d_Lw_law_52 (by rw [c13]; decide) (by rw [c13]; decide) (by rw [c13]; rfl) (by decide) ?_
        exact w_law_548 S hr hlocks hX hbl hE ih _ _ _ _ _ _ _ _ _ _ hcc huu hw hl hf
      replace hf := xf c13 hf
      by_cases c14 : ((xs (x3).toNatClampNeg) &&& 31) = 11
      · replace hf := xt c14 hf
        refine lv_tableIn (tgt := 561) S.1 S.2.1 d_Lw_law_52 (by rw [c14]; decide) (by rw [c14]; decide) (by rw [c14]; rfl) (by decide) ?_
        exact w_law_561 S hr hlocks hX hbl hE ih _ _ _ _ _ _ _ _ _ _ hcc huu hw hl hf
      replace hf := xf c14 hf
      by_cases c15 : ((xs (x3).toNatClampNeg) &&& 31) = 12
      · replace hf := xt c15 hf
        refine lv_tableIn (tgt := 594) S.1 S.2.1 d_Lw_law_52 (by rw [c15]; decide) (by rw [c15]; decide) (by rw [c15]; rfl) (by decide) ?_
        exact w_law_594 S hr hlocks hX hbl hE ih _ _ _ _ _ _ _ _ _ _ hcc huu hw hl hf
      replace hf := xf c15 hf
      by_cases c16 : ((xs (x3).toNatClampNeg) &&& 31) = 13
      · replace hf := xt c16 hf
        refine lv_tableIn (tgt := 617) S.1 S.2.1 d_Lw_law_52 (by rw [c16]; decide) (by rw [c16]; decide) (by rw [c16]; rfl) (by decide) ?_
        exact w_law_617 S hr hlocks hX hbl hE ih _ _ _ _ _ _ _ _ _ _ hcc huu hw hl hf
      replace hf := xf c16 hf
      by_cases c17 : ((xs (x3).toNatClampNeg) &&& 31) = 14
      · replace hf := xt c17 hf
        refine lv_tableIn (tgt := 651) S.1 S.2.1 d_Lw_law_52 (by rw [c17]; decide) (by rw [c17]; decide) (by rw [c17]; rfl) (by decide) ?_
        exact w_law_651 S hr hlocks hX hbl hE ih _ _ _ _ _ _ _ _ _ _ hcc huu hw hl hf
      replace hf := xf c17 hf
      by_cases c18 : ((xs (x3).toNatClampNeg) &&& 31) = 15
      · replace hf := xt c18 hf
        refine lv_tableIn (tgt := 665) S.1 S.2.1 d_Lw_law_52 (by rw [c18]; decide) (by rw [c18]; decide) (by rw [c18]; rfl) (by decide) ?_
        exact w_law_665 S hr hlocks hX hbl hE ih _ _ _ _ _ _ _ _ _ _ hcc huu hw hl hf
      replace hf := xf c18 hf
      by_cases c19 : ((xs (x3).toNatClampNeg) &&& 31) = 16
      · replace hf := xt c19 hf
        refine lv_tableIn (tgt := 709) S.1 S.2.1 d_Lw_law_52 (by rw [c19]; decide) (by rw [c19]; decide) (by rw [c19]; rfl) (by decide) ?_
        exact w_law_709 S hr hlocks hX hbl hE ih _ _ _ _ _ _ _ _ _ _ hcc huu hw hl hf
      replace hf := xf c19 hf
      by_cases c20 : ((xs (x3).toNatClampNeg) &&& 31) = 17
      · replace hf := xt c20 hf
        refine lv_tableIn (tgt := 742) S.1 S.2.1 d_Lw_law_52 (by rw [c20]; decide) (by rw [c20]; decide) (by rw [c20]; rfl) (by decide) ?_
        exact w_law_742 S hr hlocks hX hbl hE ih _ _ _ _ _ _ _ _ _ _ hcc huu hw hl hf
      replace hf := xf c20 hf
      by_cases c21 : ((xs (x3).toNatClampNeg) &&& 31) = 18
      · replace hf := xt c21 hf
        refine lv_tableIn (tgt := 785) S.1 S.2.1 d_Lw_law_52 (by rw [c21]; decide) (by rw [c21]; decide) (by rw [c21]; rfl) (by decide) ?_
        exact w_law_785 S hr hlocks hX hbl hE ih _ _ _ _ _ _ _ _ _ _ hcc huu hw hl hf
      replace hf := xf c21 hf
      by_cases c22 : ((xs (x3).toNatClampNeg) &&& 31) = 19
      · replace hf := xt c22 hf
        refine lv_tableIn (tgt := 818) S.1 S.2.1 d_Lw_law_52 (by rw [c22]; decide) (by rw [c22]; decide) (by rw [c22]; rfl) (by decide) ?_
        exact w_law_818 S hr hlocks hX hbl hE ih _ _ _ _ _ _ _ _ _ _ hcc huu hw hl hf
      replace hf := xf c22 hf
      by_cases c23 : ((xs (x3).toNatClampNeg) &&& 31) = 20
      · replace hf := xt c23 hf
        refine lv_tableIn (tgt := 852) S.1 S.2.1 d_Lw_law_52 (by rw [c23]; decide) (by rw [c23]; decide) (by rw [c23]; rfl) (by decide) ?_
        exact w_law_852 S hr hlocks hX hbl hE ih _ _ _ _ _ _ _ _ _ _ hcc huu hw hl hf
      replace hf := xf c23 hf
      by_cases c24 : ((xs (x3).toNatClampNeg) &&& 31) = 21
      · replace hf := xt c24 hf
        refine lv_tableIn (tgt := 885) S.1 S.2.1 d_Lw_law_52 (by rw [c24]; decide) (by rw [c24]; decide) (by rw [c24]; rfl) (by decide) ?_
        exact w_law_885 S hr hlocks hX hbl hE ih _ _ _ _ _ _ _ _ _ _ hcc huu hw hl hf
      replace hf := xf c24 hf
      refine lv_tableOut (tgt := 908) S.1 S.2.1 d_Lw_law_52 (by have h_c3 := lv_neT (a := 0) c3 (by decide); have h_c4 := lv_neT (a := 1) c4 (by decide); have h_c5 := lv_neT (a := 2) c5 (by decide); have h_c6 := lv_neT (a := 3) c6 (by decide); have h_c7 := lv_neT (a := 4) c7 (by decide); have h_c8 := lv_neT (a := 5) c8 (by decide); have h_c9 := lv_neT (a := 6) c9 (by decide); have h_c10 := lv_neT (a := 7) c10 (by decide); have h_c11 := lv_neT (a := 8) c11 (by decide); have h_c12 := lv_neT (a := 9) c12 (by decide); have h_c13 := lv_neT (a := 10) c13 (by decide); have h_c14 := lv_neT (a := 11) c14 (by decide); have h_c15 := lv_neT (a := 12) c15 (by decide); have h_c16 := lv_neT (a := 13) c16 (by decide); have h_c17 := lv_neT (a := 14) c17 (by decide); have h_c18 := lv_neT (a := 15) c18 (by decide); have h_c19 := lv_neT (a := 16) c19 (by decide); have h_c20 := lv_neT (a := 17) c20 (by decide); have h_c21 := lv_neT (a := 18) c21 (by decide); have h_c22 := lv_neT (a := 19) c22 (by decide); have h_c23 := lv_neT (a := 20) c23 (by decide); have h_c24 := lv_neT (a := 21) c24 (by decide); omega) (by decide) ?_
      refine lv_iinc (v := (x3 + 5)) (lv' := [(3, .int (x3 + 5)), (0, .ref b), (1, .ref a1), (2, .ref a2)]) S.1 S.2.1 d_Lw_law_908 hl (k := 3) rfl rfl (by decide) rfl (fun ls hl => ?_)
      refine lv_goto (tgt := 38) S.1 S.2.1 d_Lw_law_911 (by decide) ?_
      exact ih _ _ _ _ _ _ _ _ _ _ (by (try dsimp only); omega) (by (try dsimp only); omega) hw (lv_sub hl [1, 2, 3, 0] rfl) hf
