def OkAll (N : Nat) (R : Sg → Sg → Prop) : Prop := Ok_feed N R ∧ Ok_upland N R ∧ Ok_fault N R ∧ Ok_count N R ∧ Ok_farm N R ∧ Ok_ticks N R ∧ Ok_begin N R ∧ Ok_sleep N R ∧ Ok_hat N R ∧ Ok_hush N R ∧ Ok_undo N R ∧ Ok_nodding N R ∧ Ok_then N R ∧ Ok_first N R ∧ Ok_still N R ∧ Ok_loudest N R ∧ Ok_oftenest N R ∧ Ok_reaches N R ∧ Ok_reached N R ∧ Ok_through N R ∧ Ok_best N R ∧ Ok_toBegin N R ∧ Ok_way N R ∧ Ok_toHat N R ∧ Ok_between N R ∧ Ok_line N R ∧ Ok_hidden N R ∧ Ok_crowd N R ∧ Ok_see N R ∧ Ok_begun N R ∧ Ok_look N R ∧ Ok_forget N R ∧ Ok_byMist N R ∧ Ok_game N R ∧ Ok_years N R ∧ Ok_image N R ∧ Ok_restore N R
theorem ll_go {i L : Nat} (hi : i ≤ 3072) (hL : L ≤ 3072) (h : ¬ (Int32.ofNat L - (6 : Int32)) < nI i) : i + 6 ≤ L := by
  have e : (Int32.ofNat L - (6 : Int32)).toInt = (L : Int) - 6 := pk_sub_toInt (a := L) (b := 6) (by omega) (by decide)
  rw [Int32.lt_iff_toInt_lt, e, nI_toInt (by omega)] at h
  omega
theorem ll_ne {x : Int32} {k : Int32} (h : ¬ x = k) {n : Int} (hn : k.toInt = n) : x.toInt ≠ n := fun e => h (Int32.toInt_inj.mp (e.trans hn.symm))
set_option maxHeartbeats 16000000 in
set_option maxRecDepth 100000 in
theorem law_loop {p : Program} {l : Launch} {e : Env} {s : State} {m : MethodId} {below : List Frame} {meth : Method} {c : Code} {g : WG} {hm : Nat → Nat} {X : Xt} {N b L : Nat} {xs : Nat → Int32} {Rl : Sg → Sg → Prop} (oks : OkAll N Rl) (C : Cx p s m #[Value.ref b] meth c code 7 ret RL g (fun q => s.heap.size ≤ q) X) (hXm : xOK (gmk g hm) X) (hst : l.stackTraces = false) (hXs : va_X b L xs s s.heap) (hbl : b < s.heap.size) (hL : L ≤ 3072) :
    ∀ (n j : Nat) (σ τ : Sg) (o : Int64) (H : Heap) (locs : List Loc) (ls : Array Slot), 513 ≤ j + n → 6 * j ≤ 3072 → Rl σ τ → va_P g.1 vwCl (lwW g (gmk g hm) σ τ o) H → va_D (fun q => s.heap.size ≤ q) (lwW g (gmk g hm) σ τ o) → va_S (fun q => s.heap.size ≤ q) s.heap H locs → lv_has ls 7 [(4, .int (nI (6 * j))), (3, .ref (g.2.2 70)), (2, .ref (hm 0)), (1, .ref (g.2.2 0)), (0, .ref b)] → W p l e room_1 s m #[Value.ref b] below meth c H locs (102 + 4 * j) (11830 + 24 * j) (lw_Z below #[Value.ref b] s) (F0 m 23 ls []) := by
  obtain ⟨hx, hb, hr, hml, hown, hts, hK, hlocks, hXX, hA, hXo⟩ := id C
  have hbA : ¬ (fun q : Nat => s.heap.size ≤ q) b := Nat.not_le.mpr hbl
  intro n
  induction n with
  | zero =>
    intro j σ τ o H locs ls h1 h2
    exact absurd h1 (by omega)
  | succ n ih =>
    intro j σ τ o H locs ls hn hj hR hP hD hS hl
    refine lv_iload hx hb dL_law_23 (lv_at hl 0 rfl) ?_
    refine lv_aload_n hx hb dL_law_25 rfl (lv_at hl 4 rfl) ?_
    refine va_slen hx hb hXs hbl hbA hS dL_law_26 ?_
    refine lv_bipush (v := (6 : Int32)) hx hb dL_law_27 (by decide) ?_
    refine lv_isub hx hb dL_law_29 ?_
    refine lv_icmp_gt (tgt := 2206) hx hb dL_law_30 (by decide) (fun _ => ?_) (fun t30 => ?_)
    · refine lv_iconst (v := 1) hx hb dL_law_2206 (by decide) ?_
      refine va_forget (fun q hq => hS.2.2 q hq) ?_
      refine W.widen (k := 601024) (n := 7293034) (by omega) (by omega) ?_
      exact lw_ret hx hb hr hlocks dL_law_2207
    · have hi6 : 6 * j + 6 ≤ L := ll_go (by omega) hL t30
      have K : Lk Rl p l e s m #[Value.ref b] below meth c g hm b (6 * j) (102 + 4 * j) (11830 + 24 * j) (lw_Z below #[Value.ref b] s) := by
        intro σ τ o H locs ls hR hP hD hS hl
        refine lv_iinc (v := nI (6 * (j + 1))) (lv' := [(4, .int (nI (6 * (j + 1)))), (3, .ref (g.2.2 70)), (2, .ref (hm 0)), (1, .ref (g.2.2 0)), (0, .ref b)]) hx hb dL_law_2200 hl (k := 0) rfl (by show nI (6 * j) + nI 6 = _; rw [nI_add]; rfl) (by decide) rfl (fun ls hl => ?_)
        refine lv_goto (tgt := 23) hx hb dL_law_2203 (by decide) ?_
        exact ih (j + 1) σ τ o H locs ls (by omega) (by omega) hR hP hD hS hl
      refine lv_aload_n hx hb dL_law_33 rfl (lv_at hl 4 rfl) ?_
      refine lv_iload hx hb dL_law_34 (lv_at hl 0 rfl) ?_
      refine va_sld hx hb hXs hbl hbA hS (vp_in_nI (by omega) (by omega)) dL_law_36 ?_
      refine lv_bipush (v := (63 : Int32)) hx hb dL_law_37 (by decide) ?_
      refine lv_iand hx hb dL_law_39 ?_
      refine lv_topi (fun x ex => ?_)
      by_cases t : (x.toInt < 0 ∨ 36 < x.toInt)
      · refine lv_tableOut (tgt := 2200) hx hb dL_law_40 t (by decide) ?_
        refine W.widen (k := 102 + 4 * j + 4) (n := 11830 + 24 * j + 24) (by omega) (by omega) ?_
        exact K σ τ o H locs ls hR hP hD hS hl
      have tl := fun q => t (Or.inl q)
      have th := fun q => t (Or.inr q)
      by_cases u0 : x = (0 : Int32)
      · refine lv_tableIn (off := 164) (tgt := 204) hx hb dL_law_40 tl th (by rw [u0]; rfl) (by decide) ?_
        exact lk_feed oks.1 C hXm hst hXs hbl hR hi6 hL (by omega) (by omega) K hP hD hS hl
      by_cases u1 : x = (1 : Int32)
      · refine lv_tableIn (off := 237) (tgt := 277) hx hb dL_law_40 tl th (by rw [u1]; rfl) (by decide) ?_
        exact lk_upland oks.2.1 C hXm hst hXs hbl hR hi6 hL (by omega) (by omega) K hP hD hS hl
      by_cases u2 : x = (2 : Int32)
      · refine lv_tableIn (off := 293) (tgt := 333) hx hb dL_law_40 tl th (by rw [u2]; rfl) (by decide) ?_
        exact lk_fault oks.2.2.1 C hXm hst hXs hbl hR hi6 hL (by omega) (by omega) K hP hD hS hl
      by_cases u3 : x = (3 : Int32)
      · refine lv_tableIn (off := 306) (tgt := 346) hx hb dL_law_40 tl th (by rw [u3]; rfl) (by decide) ?_
        exact lk_count oks.2.2.2.1 C hXm hst hXs hbl hR hi6 hL (by omega) (by omega) K hP hD hS hl
      by_cases u4 : x = (4 : Int32)
      · refine lv_tableIn (off := 362) (tgt := 402) hx hb dL_law_40 tl th (by rw [u4]; rfl) (by decide) ?_
        exact lk_farm oks.2.2.2.2.1 C hXm hst hXs hbl hR hi6 hL (by omega) (by omega) K hP hD hS hl
      by_cases u5 : x = (5 : Int32)
      · refine lv_tableIn (off := 430) (tgt := 470) hx hb dL_law_40 tl th (by rw [u5]; rfl) (by decide) ?_
        exact lk_ticks oks.2.2.2.2.2.1 C hXm hst hXs hbl hR hi6 hL (by omega) (by omega) K hP hD hS hl
      by_cases u6 : x = (6 : Int32)
      · refine lv_tableIn (off := 455) (tgt := 495) hx hb dL_law_40 tl th (by rw [u6]; rfl) (by decide) ?_
        exact lk_begin oks.2.2.2.2.2.2.1 C hXm hst hXs hbl hR hi6 hL (by omega) (by omega) K hP hD hS hl
      by_cases u7 : x = (7 : Int32)
      · refine lv_tableIn (off := 518) (tgt := 558) hx hb dL_law_40 tl th (by rw [u7]; rfl) (by decide) ?_
        exact lk_sleep oks.2.2.2.2.2.2.2.1 C hXm hst hXs hbl hR hi6 hL (by omega) (by omega) K hP hD hS hl
      by_cases u8 : x = (8 : Int32)
      · refine lv_tableIn (off := 609) (tgt := 649) hx hb dL_law_40 tl th (by rw [u8]; rfl) (by decide) ?_
        exact lk_hat oks.2.2.2.2.2.2.2.2.1 C hXm hst hXs hbl hR hi6 hL (by omega) (by omega) K hP hD hS hl
      by_cases u9 : x = (9 : Int32)
      · refine lv_tableIn (off := 677) (tgt := 717) hx hb dL_law_40 tl th (by rw [u9]; rfl) (by decide) ?_
        exact lk_hush oks.2.2.2.2.2.2.2.2.2.1 C hXm hst hXs hbl hR hi6 hL (by omega) (by omega) K hP hD hS hl
      by_cases u10 : x = (10 : Int32)
      · refine lv_tableIn (off := 690) (tgt := 730) hx hb dL_law_40 tl th (by rw [u10]; rfl) (by decide) ?_
        exact lk_undo oks.2.2.2.2.2.2.2.2.2.2.1 C hXm hst hXs hbl hR hi6 hL (by omega) (by omega) K hP hD hS hl
      by_cases u11 : x = (11 : Int32)
      · refine lv_tableIn (off := 703) (tgt := 743) hx hb dL_law_40 tl th (by rw [u11]; rfl) (by decide) ?_
        exact lk_nodding oks.2.2.2.2.2.2.2.2.2.2.2.1 C hXm hst hXs hbl hR hi6 hL (by omega) (by omega) K hP hD hS hl
      by_cases u12 : x = (12 : Int32)
      · refine lv_tableIn (off := 759) (tgt := 799) hx hb dL_law_40 tl th (by rw [u12]; rfl) (by decide) ?_
        exact lk_then oks.2.2.2.2.2.2.2.2.2.2.2.2.1 C hXm hst hXs hbl hR hi6 hL (by omega) (by omega) K hP hD hS hl
      by_cases u13 : x = (13 : Int32)
      · refine lv_tableIn (off := 839) (tgt := 879) hx hb dL_law_40 tl th (by rw [u13]; rfl) (by decide) ?_
        exact lk_first oks.2.2.2.2.2.2.2.2.2.2.2.2.2.1 C hXm hst hXs hbl hR hi6 hL (by omega) (by omega) K hP hD hS hl
      by_cases u14 : x = (14 : Int32)
      · refine lv_tableIn (off := 895) (tgt := 935) hx hb dL_law_40 tl th (by rw [u14]; rfl) (by decide) ?_
        exact lk_still oks.2.2.2.2.2.2.2.2.2.2.2.2.2.2.1 C hXm hst hXs hbl hR hi6 hL (by omega) (by omega) K hP hD hS hl
      by_cases u15 : x = (15 : Int32)
      · refine lv_tableIn (off := 908) (tgt := 948) hx hb dL_law_40 tl th (by rw [u15]; rfl) (by decide) ?_
        exact lk_loudest oks.2.2.2.2.2.2.2.2.2.2.2.2.2.2.2.1 C hXm hst hXs hbl hR hi6 hL (by omega) (by omega) K hP hD hS hl
      by_cases u16 : x = (16 : Int32)
      · refine lv_tableIn (off := 964) (tgt := 1004) hx hb dL_law_40 tl th (by rw [u16]; rfl) (by decide) ?_
        exact lk_oftenest oks.2.2.2.2.2.2.2.2.2.2.2.2.2.2.2.2.1 C hXm hst hXs hbl hR hi6 hL (by omega) (by omega) K hP hD hS hl
      by_cases u17 : x = (17 : Int32)
      · refine lv_tableIn (off := 1020) (tgt := 1060) hx hb dL_law_40 tl th (by rw [u17]; rfl) (by decide) ?_
        exact lk_reaches oks.2.2.2.2.2.2.2.2.2.2.2.2.2.2.2.2.2.1 C hXm hst hXs hbl hR hi6 hL (by omega) (by omega) K hP hD hS hl
      by_cases u18 : x = (18 : Int32)
      · refine lv_tableIn (off := 1088) (tgt := 1128) hx hb dL_law_40 tl th (by rw [u18]; rfl) (by decide) ?_
        exact lk_reached oks.2.2.2.2.2.2.2.2.2.2.2.2.2.2.2.2.2.2.1 C hXm hst hXs hbl hR hi6 hL (by omega) (by omega) K hP hD hS hl
      by_cases u19 : x = (19 : Int32)
      · refine lv_tableIn (off := 1156) (tgt := 1196) hx hb dL_law_40 tl th (by rw [u19]; rfl) (by decide) ?_
        exact lk_through oks.2.2.2.2.2.2.2.2.2.2.2.2.2.2.2.2.2.2.2.1 C hXm hst hXs hbl hR hi6 hL (by omega) (by omega) K hP hD hS hl
      by_cases u20 : x = (20 : Int32)
      · refine lv_tableIn (off := 1224) (tgt := 1264) hx hb dL_law_40 tl th (by rw [u20]; rfl) (by decide) ?_
        exact lk_best oks.2.2.2.2.2.2.2.2.2.2.2.2.2.2.2.2.2.2.2.2.1 C hXm hst hXs hbl hR hi6 hL (by omega) (by omega) K hP hD hS hl
      by_cases u21 : x = (21 : Int32)
      · refine lv_tableIn (off := 1280) (tgt := 1320) hx hb dL_law_40 tl th (by rw [u21]; rfl) (by decide) ?_
        exact lk_toBegin oks.2.2.2.2.2.2.2.2.2.2.2.2.2.2.2.2.2.2.2.2.2.1 C hXm hst hXs hbl hR hi6 hL (by omega) (by omega) K hP hD hS hl
      by_cases u22 : x = (22 : Int32)
      · refine lv_tableIn (off := 1336) (tgt := 1376) hx hb dL_law_40 tl th (by rw [u22]; rfl) (by decide) ?_
        exact lk_way oks.2.2.2.2.2.2.2.2.2.2.2.2.2.2.2.2.2.2.2.2.2.2.1 C hXm hst hXs hbl hR hi6 hL (by omega) (by omega) K hP hD hS hl
      by_cases u23 : x = (23 : Int32)
      · refine lv_tableIn (off := 1404) (tgt := 1444) hx hb dL_law_40 tl th (by rw [u23]; rfl) (by decide) ?_
        exact lk_toHat oks.2.2.2.2.2.2.2.2.2.2.2.2.2.2.2.2.2.2.2.2.2.2.2.1 C hXm hst hXs hbl hR hi6 hL (by omega) (by omega) K hP hD hS hl
      by_cases u24 : x = (24 : Int32)
      · refine lv_tableIn (off := 1472) (tgt := 1512) hx hb dL_law_40 tl th (by rw [u24]; rfl) (by decide) ?_
        exact lk_between oks.2.2.2.2.2.2.2.2.2.2.2.2.2.2.2.2.2.2.2.2.2.2.2.2.1 C hXm hst hXs hbl hR hi6 hL (by omega) (by omega) K hP hD hS hl
      by_cases u25 : x = (25 : Int32)
      · refine lv_tableIn (off := 1540) (tgt := 1580) hx hb dL_law_40 tl th (by rw [u25]; rfl) (by decide) ?_
        exact lk_line oks.2.2.2.2.2.2.2.2.2.2.2.2.2.2.2.2.2.2.2.2.2.2.2.2.2.1 C hXm hst hXs hbl hR hi6 hL (by omega) (by omega) K hP hD hS hl
      by_cases u26 : x = (26 : Int32)
      · refine lv_tableIn (off := 1553) (tgt := 1593) hx hb dL_law_40 tl th (by rw [u26]; rfl) (by decide) ?_
        exact lk_hidden oks.2.2.2.2.2.2.2.2.2.2.2.2.2.2.2.2.2.2.2.2.2.2.2.2.2.2.1 C hXm hst hXs hbl hR hi6 hL (by omega) (by omega) K hP hD hS hl
      by_cases u27 : x = (27 : Int32)
      · refine lv_tableIn (off := 1609) (tgt := 1649) hx hb dL_law_40 tl th (by rw [u27]; rfl) (by decide) ?_
        exact lk_crowd oks.2.2.2.2.2.2.2.2.2.2.2.2.2.2.2.2.2.2.2.2.2.2.2.2.2.2.2.1 C hXm hst hXs hbl hR hi6 hL (by omega) (by omega) K hP hD hS hl
      by_cases u28 : x = (28 : Int32)
      · refine lv_tableIn (off := 1677) (tgt := 1717) hx hb dL_law_40 tl th (by rw [u28]; rfl) (by decide) ?_
        exact lk_see oks.2.2.2.2.2.2.2.2.2.2.2.2.2.2.2.2.2.2.2.2.2.2.2.2.2.2.2.2.1 C hXm hst hXs hbl hR hi6 hL (by omega) (by omega) K hP hD hS hl
      by_cases u29 : x = (29 : Int32)
      · refine lv_tableIn (off := 1773) (tgt := 1813) hx hb dL_law_40 tl th (by rw [u29]; rfl) (by decide) ?_
        exact lk_begun oks.2.2.2.2.2.2.2.2.2.2.2.2.2.2.2.2.2.2.2.2.2.2.2.2.2.2.2.2.2.1 C hXm hst hXs hbl hR hi6 hL (by omega) (by omega) K hP hD hS hl
      by_cases u30 : x = (30 : Int32)
      · refine lv_tableIn (off := 1829) (tgt := 1869) hx hb dL_law_40 tl th (by rw [u30]; rfl) (by decide) ?_
        exact lk_look oks.2.2.2.2.2.2.2.2.2.2.2.2.2.2.2.2.2.2.2.2.2.2.2.2.2.2.2.2.2.2.1 C hXm hst hXs hbl hR hi6 hL (by omega) (by omega) K hP hD hS hl
      by_cases u31 : x = (31 : Int32)
      · refine lv_tableIn (off := 1885) (tgt := 1925) hx hb dL_law_40 tl th (by rw [u31]; rfl) (by decide) ?_
        exact lk_forget oks.2.2.2.2.2.2.2.2.2.2.2.2.2.2.2.2.2.2.2.2.2.2.2.2.2.2.2.2.2.2.2.1 C hXm hst hXs hbl hR hi6 hL (by omega) (by omega) K hP hD hS hl
      by_cases u32 : x = (32 : Int32)
      · refine lv_tableIn (off := 1896) (tgt := 1936) hx hb dL_law_40 tl th (by rw [u32]; rfl) (by decide) ?_
        exact lk_byMist oks.2.2.2.2.2.2.2.2.2.2.2.2.2.2.2.2.2.2.2.2.2.2.2.2.2.2.2.2.2.2.2.2.1 C hXm hst hXs hbl hR hi6 hL (by omega) (by omega) K hP hD hS hl
      by_cases u33 : x = (33 : Int32)
      · refine lv_tableIn (off := 1976) (tgt := 2016) hx hb dL_law_40 tl th (by rw [u33]; rfl) (by decide) ?_
        exact lk_game oks.2.2.2.2.2.2.2.2.2.2.2.2.2.2.2.2.2.2.2.2.2.2.2.2.2.2.2.2.2.2.2.2.2.1 C hXm hst hXs hbl hR hi6 hL (by omega) (by omega) K hP hD hS hl
      by_cases u34 : x = (34 : Int32)
      · refine lv_tableIn (off := 2056) (tgt := 2096) hx hb dL_law_40 tl th (by rw [u34]; rfl) (by decide) ?_
        exact lk_years oks.2.2.2.2.2.2.2.2.2.2.2.2.2.2.2.2.2.2.2.2.2.2.2.2.2.2.2.2.2.2.2.2.2.2.1 C hXm hst hXs hbl hR hi6 hL (by omega) (by omega) K hP hD hS hl
      by_cases u35 : x = (35 : Int32)
      · refine lv_tableIn (off := 2136) (tgt := 2176) hx hb dL_law_40 tl th (by rw [u35]; rfl) (by decide) ?_
        exact lk_image oks.2.2.2.2.2.2.2.2.2.2.2.2.2.2.2.2.2.2.2.2.2.2.2.2.2.2.2.2.2.2.2.2.2.2.2.1 C hXm hst hXs hbl hR hi6 hL (by omega) (by omega) K hP hD hS hl
      by_cases u36 : x = (36 : Int32)
      · refine lv_tableIn (off := 2147) (tgt := 2187) hx hb dL_law_40 tl th (by rw [u36]; rfl) (by decide) ?_
        exact lk_restore oks.2.2.2.2.2.2.2.2.2.2.2.2.2.2.2.2.2.2.2.2.2.2.2.2.2.2.2.2.2.2.2.2.2.2.2.2 C hXm hst hXs hbl hR hi6 hL (by omega) (by omega) K hP hD hS hl
      have n0 := ll_ne u0 (n := 0) (by decide)
      have n1 := ll_ne u1 (n := 1) (by decide)
      have n2 := ll_ne u2 (n := 2) (by decide)
      have n3 := ll_ne u3 (n := 3) (by decide)
      have n4 := ll_ne u4 (n := 4) (by decide)
      have n5 := ll_ne u5 (n := 5) (by decide)
      have n6 := ll_ne u6 (n := 6) (by decide)
      have n7 := ll_ne u7 (n := 7) (by decide)
      have n8 := ll_ne u8 (n := 8) (by decide)
      have n9 := ll_ne u9 (n := 9) (by decide)
      have n10 := ll_ne u10 (n := 10) (by decide)
      have n11 := ll_ne u11 (n := 11) (by decide)
      have n12 := ll_ne u12 (n := 12) (by decide)
      have n13 := ll_ne u13 (n := 13) (by decide)
      have n14 := ll_ne u14 (n := 14) (by decide)
      have n15 := ll_ne u15 (n := 15) (by decide)
      have n16 := ll_ne u16 (n := 16) (by decide)
      have n17 := ll_ne u17 (n := 17) (by decide)
      have n18 := ll_ne u18 (n := 18) (by decide)
      have n19 := ll_ne u19 (n := 19) (by decide)
      have n20 := ll_ne u20 (n := 20) (by decide)
      have n21 := ll_ne u21 (n := 21) (by decide)
      have n22 := ll_ne u22 (n := 22) (by decide)
      have n23 := ll_ne u23 (n := 23) (by decide)
      have n24 := ll_ne u24 (n := 24) (by decide)
      have n25 := ll_ne u25 (n := 25) (by decide)
      have n26 := ll_ne u26 (n := 26) (by decide)
      have n27 := ll_ne u27 (n := 27) (by decide)
      have n28 := ll_ne u28 (n := 28) (by decide)
      have n29 := ll_ne u29 (n := 29) (by decide)
      have n30 := ll_ne u30 (n := 30) (by decide)
      have n31 := ll_ne u31 (n := 31) (by decide)
      have n32 := ll_ne u32 (n := 32) (by decide)
      have n33 := ll_ne u33 (n := 33) (by decide)
      have n34 := ll_ne u34 (n := 34) (by decide)
      have n35 := ll_ne u35 (n := 35) (by decide)
      have n36 := ll_ne u36 (n := 36) (by decide)
      omega
