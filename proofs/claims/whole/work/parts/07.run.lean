section RUN
variable {p : Program} {l : Launch} {e : Env} {R : Room} {s : State} {m : MethodId} {args : Array Value} {below : List Frame} {meth : Method} {c : Code} {cells slots : Nat} {Q : State → Prop}
variable {D : va_G} {tA : Nat → ClassId} {φ : Nat → Nat} {z : Nat} {cc : ByteArray} {own : String} {nL n0 : Nat} {pc : Nat} {lv : mm_L} {st : List Value} {h h' : mm_H} {a : Nat} {i x : Int32}
theorem mm_zli (X : mm_X p s m args c cc own nL D tA) (hv : mm_li h a i = some x) (hdg : decode cc pc = .ok (.iaload, 1))
    (k : mm_Z p l e R s m args below meth c cells slots Q D tA φ z nL (pc + 1) lv (.int x :: st) h) : mm_Z p l e R s m args below meth c cells slots Q D tA φ z nL pc lv (.int i :: .ref a :: st) h := by
  intro H locs ls hR hS hl
  obtain ⟨hx, hb, hml, hown, hts, hK⟩ := X
  obtain ⟨t, n, f, ha, ht, hin, rfl⟩ := mm_li_inv hv
  rcases ht with rfl | rfl
  · obtain ⟨Nn, hN⟩ := hR.2.2.2.1
    obtain ⟨q0, hq0⟩ := mm_ws_at (tA := tA) (φ := φ) (hN a _ ha) ha rfl
    exact va_iald hx hb hK.1 (mm_ws_P hR (N := Nn)) q0 0 hq0 rfl hin hdg (k H locs ls hR hS hl)
  · obtain ⟨⟨scr, x1, x2, x3, x4, x5⟩, hlt⟩ := hR.2.1 a n f ha
    have hlt2 : i.toNatClampNeg < n := by
      unfold vp_in at hin
      omega
    exact W.iald hx hb x1 x2 x3 (by rw [x4]; exact hin) (x5 _ hlt2) rfl rfl hdg (k H locs ls hR hS hl)
theorem mm_zlb (X : mm_X p s m args c cc own nL D tA) (hv : mm_lb h a i = some x) (hdg : decode cc pc = .ok (.baload, 1))
    (k : mm_Z p l e R s m args below meth c cells slots Q D tA φ z nL (pc + 1) lv (.int x :: st) h) : mm_Z p l e R s m args below meth c cells slots Q D tA φ z nL pc lv (.int i :: .ref a :: st) h := by
  intro H locs ls hR hS hl
  obtain ⟨hx, hb, hml, hown, hts, hK⟩ := X
  obtain ⟨t, n, f, ha, ht, hin, rfl⟩ := mm_lb_inv hv
  obtain ⟨Nn, hN⟩ := hR.2.2.2.1
  rcases ht with rfl | rfl
  · obtain ⟨q0, hq0⟩ := mm_ws_at (tA := tA) (φ := φ) (hN a _ ha) ha rfl
    exact va_bald hx hb hK.1 (mm_ws_P hR (N := Nn)) q0 2 hq0 rfl hin hdg (k H locs ls hR hS hl)
  · obtain ⟨q0, hq0⟩ := mm_ws_at (tA := tA) (φ := φ) (hN a _ ha) ha rfl
    exact va_zald hx hb hK.1 (mm_ws_P hR (N := Nn)) q0 3 hq0 rfl hin hdg (k H locs ls hR hS hl)
theorem mm_zll {x : Int64} (X : mm_X p s m args c cc own nL D tA) (hv : mm_ll h a i = some x) (hdg : decode cc pc = .ok (.laload, 1))
    (k : mm_Z p l e R s m args below meth c cells slots Q D tA φ z nL (pc + 1) lv (.long x :: st) h) : mm_Z p l e R s m args below meth c cells slots Q D tA φ z nL pc lv (.int i :: .ref a :: st) h := by
  intro H locs ls hR hS hl
  obtain ⟨hx, hb, hml, hown, hts, hK⟩ := X
  obtain ⟨n, f, ha, hin, rfl⟩ := mm_ll_inv hv
  obtain ⟨Nn, hN⟩ := hR.2.2.2.1
  obtain ⟨q0, hq0⟩ := mm_ws_at (tA := tA) (φ := φ) (hN a _ ha) ha rfl
  exact va_lald hx hb hK.1 (mm_ws_P hR (N := Nn)) q0 1 hq0 rfl hin hdg (k H locs ls hR hS hl)
theorem mm_zlr {x : Nat} (X : mm_X p s m args c cc own nL D tA) (hv : mm_lr h a i = some x) (hdg : decode cc pc = .ok (.aaload, 1))
    (k : mm_Z p l e R s m args below meth c cells slots Q D tA φ z nL (pc + 1) lv (.ref x :: st) h) : mm_Z p l e R s m args below meth c cells slots Q D tA φ z nL pc lv (.int i :: .ref a :: st) h := by
  intro H locs ls hR hS hl
  obtain ⟨hx, hb, hml, hown, hts, hK⟩ := X
  obtain ⟨t, n, f, ha, ht, hin, hf⟩ := mm_lr_inv hv
  obtain ⟨Nn, hN⟩ := hR.2.2.2.1
  have kk := k H locs ls hR hS hl
  have e1 : va_rf ((f i.toNatClampNeg).map φ) = .ref (φ x) := by rw [hf]; rfl
  rcases ht with rfl | rfl
  · obtain ⟨q0, hq0⟩ := mm_ws_at (tA := tA) (φ := φ) (hN a _ ha) ha rfl
    refine va_aldq (C := RX8) hx hb hK.1 (mm_ws_P hR (N := Nn)) q0 4 (f := fun i => (f i).map φ) hq0 rfl hin hdg ?_
    rw [e1]; exact kk
  · obtain ⟨q0, hq0⟩ := mm_ws_at (tA := tA) (φ := φ) (hN a _ ha) ha rfl
    refine va_aldq (C := RX2) hx hb hK.1 (mm_ws_P hR (N := Nn)) q0 5 (f := fun i => (f i).map φ) hq0 rfl hin hdg ?_
    rw [e1]; exact kk
theorem mm_zln (X : mm_X p s m args c cc own nL D tA) (hv : mm_ln h a = some x) (hdg : decode cc pc = .ok (.arraylength, 1))
    (k : mm_Z p l e R s m args below meth c cells slots Q D tA φ z nL (pc + 1) lv (.int x :: st) h) : mm_Z p l e R s m args below meth c cells slots Q D tA φ z nL pc lv (.ref a :: st) h := by
  intro H locs ls hR hS hl
  obtain ⟨hx, hb, hml, hown, hts, hK⟩ := X
  obtain ⟨n, f, ha, rfl⟩ := mm_ln_inv hv
  obtain ⟨⟨scr, x1, x2, x3, x4, x5⟩, hlt⟩ := hR.2.1 a n f ha
  exact W.alen hx hb x1 x2 (by rw [x4]) rfl rfl hdg (k H locs ls hR hS hl)
theorem mm_zsi (X : mm_X p s m args c cc own nL D tA) (hv : mm_si h a i x = some h') (hdg : decode cc pc = .ok (.iastore, 1))
    (k : mm_Z p l e R s m args below meth c cells slots Q D tA φ z nL (pc + 1) lv st h') : mm_Z p l e R s m args below meth c cells slots Q D tA φ z nL pc lv (.int x :: .int i :: .ref a :: st) h := by
  intro H locs ls hR hS hl
  obtain ⟨hx, hb, hml, hown, hts, hK⟩ := X
  obtain ⟨n, f, ha, hin, rfl⟩ := mm_si_inv hv
  obtain ⟨Nn, hN⟩ := hR.2.2.2.1
  obtain ⟨q0, hq0⟩ := mm_ws_at (tA := tA) (φ := φ) (hN a _ ha) ha rfl
  exact va_iast hx hb hK.1 (mm_ws_P hR (N := Nn)) (mm_ws_D hR (N := Nn)) hS q0 0 hq0 rfl hin hdg (fun H1 locs1 hP1 hD1 hS1 => k H1 locs1 ls (mm_R_set hR hN ha rfl rfl hq0 hS hP1 hS1) hS1 hl)
theorem mm_zsb (X : mm_X p s m args c cc own nL D tA) (hv : mm_sb h a i x = some h') (hdg : decode cc pc = .ok (.bastore, 1))
    (k : mm_Z p l e R s m args below meth c cells slots Q D tA φ z nL (pc + 1) lv st h') : mm_Z p l e R s m args below meth c cells slots Q D tA φ z nL pc lv (.int x :: .int i :: .ref a :: st) h := by
  intro H locs ls hR hS hl
  obtain ⟨hx, hb, hml, hown, hts, hK⟩ := X
  obtain ⟨n, f, hin, hh⟩ := mm_sb_inv hv
  obtain ⟨Nn, hN⟩ := hR.2.2.2.1
  rcases hh with ⟨ha, rfl⟩ | ⟨ha, rfl⟩
  · obtain ⟨q0, hq0⟩ := mm_ws_at (tA := tA) (φ := φ) (hN a _ ha) ha rfl
    exact va_bast hx hb hK.1 (mm_ws_P hR (N := Nn)) (mm_ws_D hR (N := Nn)) hS q0 2 hq0 rfl hin hdg (fun H1 locs1 hP1 hD1 hS1 => k H1 locs1 ls (mm_R_set hR hN ha rfl rfl hq0 hS hP1 hS1) hS1 hl)
  · obtain ⟨q0, hq0⟩ := mm_ws_at (tA := tA) (φ := φ) (hN a _ ha) ha rfl
    exact va_zast hx hb hK.1 (mm_ws_P hR (N := Nn)) (mm_ws_D hR (N := Nn)) hS q0 3 hq0 rfl hin hdg (fun H1 locs1 hP1 hD1 hS1 => k H1 locs1 ls (mm_R_set hR hN ha rfl rfl hq0 hS hP1 hS1) hS1 hl)
theorem mm_zsl {x : Int64} (X : mm_X p s m args c cc own nL D tA) (hv : mm_sl h a i x = some h') (hdg : decode cc pc = .ok (.lastore, 1))
    (k : mm_Z p l e R s m args below meth c cells slots Q D tA φ z nL (pc + 1) lv st h') : mm_Z p l e R s m args below meth c cells slots Q D tA φ z nL pc lv (.long x :: .int i :: .ref a :: st) h := by
  intro H locs ls hR hS hl
  obtain ⟨hx, hb, hml, hown, hts, hK⟩ := X
  obtain ⟨n, f, ha, hin, rfl⟩ := mm_sl_inv hv
  obtain ⟨Nn, hN⟩ := hR.2.2.2.1
  obtain ⟨q0, hq0⟩ := mm_ws_at (tA := tA) (φ := φ) (hN a _ ha) ha rfl
  exact va_last hx hb hK.1 (mm_ws_P hR (N := Nn)) (mm_ws_D hR (N := Nn)) hS q0 1 hq0 rfl hin hdg (fun H1 locs1 hP1 hD1 hS1 => k H1 locs1 ls (mm_R_set hR hN ha rfl rfl hq0 hS hP1 hS1) hS1 hl)
theorem mm_up_map (f : Nat → Option Nat) (j v : Nat) : (fun i => (va_up f j (some v) i).map φ) = va_up (fun i => (f i).map φ) j (some (φ v)) := by
  funext i
  unfold va_up
  by_cases hi : i = j
  · simp [hi]
  · simp [hi]
theorem mm_zsr {x : Nat} (X : mm_X p s m args c cc own nL D tA) (hv : mm_sr h a i x = some h') (hdg : decode cc pc = .ok (.aastore, 1))
    (k : mm_Z p l e R s m args below meth c cells slots Q D tA φ z nL (pc + 1) lv st h') : mm_Z p l e R s m args below meth c cells slots Q D tA φ z nL pc lv (.ref x :: .int i :: .ref a :: st) h := by
  intro H locs ls hR hS hl
  obtain ⟨hx, hb, hml, hown, hts, hK⟩ := X
  obtain ⟨t, n, f, fs, ha, hvx, ht, hin, rfl⟩ := mm_sr_inv hv
  obtain ⟨Nn, hN⟩ := hR.2.2.2.1
  obtain ⟨qk, hqk⟩ := mm_ws_at (tA := tA) (φ := φ) (hN x _ hvx) hvx rfl
  rcases ht with rfl | rfl
  · obtain ⟨q0, hq0⟩ := mm_ws_at (tA := tA) (φ := φ) (hN a _ ha) ha rfl
    refine va_astq hx hb hK.1 (mm_ws_P hR (N := Nn)) (mm_ws_D hR (N := Nn)) hS q0 4 qk 8 (r := (RX8, TX8, 9)) (f := fun i => (f i).map φ) hq0 rfl hqk rfl hin hdg (fun H1 locs1 hP1 hD1 hS1 => ?_)
    rw [← mm_up_map] at hP1
    exact k H1 locs1 ls (mm_R_set hR hN ha rfl rfl hq0 hS hP1 hS1) hS1 hl
  · obtain ⟨q0, hq0⟩ := mm_ws_at (tA := tA) (φ := φ) (hN a _ ha) ha rfl
    refine va_astq hx hb hK.1 (mm_ws_P hR (N := Nn)) (mm_ws_D hR (N := Nn)) hS q0 5 qk 2 (r := (RX2, TX2, 6)) (f := fun i => (f i).map φ) hq0 rfl hqk rfl hin hdg (fun H1 locs1 hP1 hD1 hS1 => ?_)
    rw [← mm_up_map] at hP1
    exact k H1 locs1 ls (mm_R_set hR hN ha rfl rfl hq0 hS hP1 hS1) hS1 hl
theorem mm_zcp {a0 j : Nat} {sp dp n : Int32} (X : mm_X p s m args c cc own nL D tA) (hlk : Cond.methodLink own j arraycopyName ∈ mm_tbl) (w1 : Cond.native arraycopyName ∈ mm_tbl) (w2 : Cond.static arraycopyName ∈ mm_tbl) (w3 : Cond.initialized "java/lang/System" ∈ mm_tbl) (hRo : 1 ≤ R.frames ∧ 34 ≤ R.locals) (hwt : mm_wt st ≤ 16)
    (hv : mm_cp h a0 sp a dp n = some h') (hdg : decode cc pc = .ok (.invokestatic j, 3))
    (k : mm_Z p l e R s m args below meth c cells slots Q D tA φ z nL (pc + 3) lv st h') : mm_Z p l e R s m args below meth c cells slots Q D tA φ z nL pc lv (.int n :: .int dp :: .ref a :: .int sp :: .ref a0 :: st) h := by
  intro H locs ls hR hS hl
  obtain ⟨hx, hb, hml, hown, hts, hK⟩ := X
  obtain ⟨m0, f, m1, g, ha0, ha, c1, c2, c3, c4, c5, rfl⟩ := mm_cp_inv hv
  obtain ⟨Nn, hN⟩ := hR.2.2.2.1
  obtain ⟨q0, hq0⟩ := mm_ws_at (tA := tA) (φ := φ) (hN a0 _ ha0) ha0 rfl
  obtain ⟨q1, hq1⟩ := mm_ws_at (tA := tA) (φ := φ) (hN a _ ha) ha rfl
  refine va_copyi hx hb (hml.trans hl.1.symm) hown (hts _ hlk) (hts _ w1) (hts _ w2) (hts _ w3) hK.1 (mm_ws_P hR (N := Nn)) (mm_ws_D hR (N := Nn)) hS q0 q1 0 0 (ty := .int) hq0 hq1 rfl rfl rfl c1 c2 c3 c4 c5 (fun _ _ => rfl) hRo.1 ?_ hdg (fun H1 locs1 hP1 hD1 hS1 => k H1 locs1 ls (mm_R_set hR hN ha rfl rfl hq1 hS hP1 hS1) hS1 hl)
  have e1 : nativeFrameWords "java/lang/System" "arraycopy" 5 = 7 := by decide +kernel
  rw [e1, mm_wt_map]
  omega
end RUN
