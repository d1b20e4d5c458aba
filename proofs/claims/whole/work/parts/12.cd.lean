theorem cd_ok0 : ((List.range 11).all fun i => match mdL[0 + i]? with
  | some m => (codL.getD (0 + i) []).all fun pe => okE m pe.1 pe.2
  | _ => false) = true := by decide +kernel
theorem cd_ok1 : ((List.range 8).all fun i => match mdL[11 + i]? with
  | some m => (codL.getD (11 + i) []).all fun pe => okE m pe.1 pe.2
  | _ => false) = true := by decide +kernel
theorem cd_ok2 : ((List.range 16).all fun i => match mdL[19 + i]? with
  | some m => (codL.getD (19 + i) []).all fun pe => okE m pe.1 pe.2
  | _ => false) = true := by decide +kernel
theorem cd_ok3 : ((List.range 14).all fun i => match mdL[35 + i]? with
  | some m => (codL.getD (35 + i) []).all fun pe => okE m pe.1 pe.2
  | _ => false) = true := by decide +kernel
theorem cd_ok4 : ((List.range 10).all fun i => match mdL[49 + i]? with
  | some m => (codL.getD (49 + i) []).all fun pe => okE m pe.1 pe.2
  | _ => false) = true := by decide +kernel
theorem cd_ok5 : ((List.range 8).all fun i => match mdL[59 + i]? with
  | some m => (codL.getD (59 + i) []).all fun pe => okE m pe.1 pe.2
  | _ => false) = true := by decide +kernel
theorem cd_ok6 : ((List.range 8).all fun i => match mdL[67 + i]? with
  | some m => (codL.getD (67 + i) []).all fun pe => okE m pe.1 pe.2
  | _ => false) = true := by decide +kernel
theorem cd_ok7 : ((List.range 9).all fun i => match mdL[75 + i]? with
  | some m => (codL.getD (75 + i) []).all fun pe => okE m pe.1 pe.2
  | _ => false) = true := by decide +kernel
theorem cd_ok8 : ((List.range 10).all fun i => match mdL[84 + i]? with
  | some m => (codL.getD (84 + i) []).all fun pe => okE m pe.1 pe.2
  | _ => false) = true := by decide +kernel
theorem cd_ok9 : ((List.range 11).all fun i => match mdL[94 + i]? with
  | some m => (codL.getD (94 + i) []).all fun pe => okE m pe.1 pe.2
  | _ => false) = true := by decide +kernel
theorem cd_ok10 : ((List.range 10).all fun i => match mdL[105 + i]? with
  | some m => (codL.getD (105 + i) []).all fun pe => okE m pe.1 pe.2
  | _ => false) = true := by decide +kernel
theorem cd_ok11 : ((List.range 9).all fun i => match mdL[115 + i]? with
  | some m => (codL.getD (115 + i) []).all fun pe => okE m pe.1 pe.2
  | _ => false) = true := by decide +kernel
theorem cd_ok12 : ((List.range 11).all fun i => match mdL[124 + i]? with
  | some m => (codL.getD (124 + i) []).all fun pe => okE m pe.1 pe.2
  | _ => false) = true := by decide +kernel
theorem cd_ok13 : ((List.range 7).all fun i => match mdL[135 + i]? with
  | some m => (codL.getD (135 + i) []).all fun pe => okE m pe.1 pe.2
  | _ => false) = true := by decide +kernel
theorem cd_ok14 : ((List.range 7).all fun i => match mdL[142 + i]? with
  | some m => (codL.getD (142 + i) []).all fun pe => okE m pe.1 pe.2
  | _ => false) = true := by decide +kernel
theorem cd_ok15 : ((List.range 8).all fun i => match mdL[149 + i]? with
  | some m => (codL.getD (149 + i) []).all fun pe => okE m pe.1 pe.2
  | _ => false) = true := by decide +kernel
theorem cd_ok16 : ((List.range 6).all fun i => match mdL[157 + i]? with
  | some m => (codL.getD (157 + i) []).all fun pe => okE m pe.1 pe.2
  | _ => false) = true := by decide +kernel
theorem cd_ok17 : ((List.range 5).all fun i => match mdL[163 + i]? with
  | some m => (codL.getD (163 + i) []).all fun pe => okE m pe.1 pe.2
  | _ => false) = true := by decide +kernel
theorem cd_ok18 : ((List.range 7).all fun i => match mdL[168 + i]? with
  | some m => (codL.getD (168 + i) []).all fun pe => okE m pe.1 pe.2
  | _ => false) = true := by decide +kernel
theorem cd_ok19 : ((List.range 7).all fun i => match mdL[175 + i]? with
  | some m => (codL.getD (175 + i) []).all fun pe => okE m pe.1 pe.2
  | _ => false) = true := by decide +kernel
theorem cd_ok20 : ((List.range 11).all fun i => match mdL[182 + i]? with
  | some m => (codL.getD (182 + i) []).all fun pe => okE m pe.1 pe.2
  | _ => false) = true := by decide +kernel
theorem cd_ok21 : ((List.range 7).all fun i => match mdL[193 + i]? with
  | some m => (codL.getD (193 + i) []).all fun pe => okE m pe.1 pe.2
  | _ => false) = true := by decide +kernel
theorem cd_ok22 : ((List.range 6).all fun i => match mdL[200 + i]? with
  | some m => (codL.getD (200 + i) []).all fun pe => okE m pe.1 pe.2
  | _ => false) = true := by decide +kernel
theorem cd_ok23 : ((List.range 11).all fun i => match mdL[206 + i]? with
  | some m => (codL.getD (206 + i) []).all fun pe => okE m pe.1 pe.2
  | _ => false) = true := by decide +kernel
theorem cd_ok24 : ((List.range 7).all fun i => match mdL[217 + i]? with
  | some m => (codL.getD (217 + i) []).all fun pe => okE m pe.1 pe.2
  | _ => false) = true := by decide +kernel
theorem cd_ok25 : ((List.range 7).all fun i => match mdL[224 + i]? with
  | some m => (codL.getD (224 + i) []).all fun pe => okE m pe.1 pe.2
  | _ => false) = true := by decide +kernel
theorem cd_ok26 : ((List.range 6).all fun i => match mdL[231 + i]? with
  | some m => (codL.getD (231 + i) []).all fun pe => okE m pe.1 pe.2
  | _ => false) = true := by decide +kernel
theorem cd_ok27 : ((List.range 8).all fun i => match mdL[237 + i]? with
  | some m => (codL.getD (237 + i) []).all fun pe => okE m pe.1 pe.2
  | _ => false) = true := by decide +kernel
theorem cd_ok28 : ((List.range 10).all fun i => match mdL[245 + i]? with
  | some m => (codL.getD (245 + i) []).all fun pe => okE m pe.1 pe.2
  | _ => false) = true := by decide +kernel
theorem cd_ok29 : ((List.range 9).all fun i => match mdL[255 + i]? with
  | some m => (codL.getD (255 + i) []).all fun pe => okE m pe.1 pe.2
  | _ => false) = true := by decide +kernel
theorem cd_ok30 : ((List.range 7).all fun i => match mdL[264 + i]? with
  | some m => (codL.getD (264 + i) []).all fun pe => okE m pe.1 pe.2
  | _ => false) = true := by decide +kernel
theorem cd_ok31 : ((List.range 6).all fun i => match mdL[271 + i]? with
  | some m => (codL.getD (271 + i) []).all fun pe => okE m pe.1 pe.2
  | _ => false) = true := by decide +kernel
theorem cd_ok32 : ((List.range 5).all fun i => match mdL[277 + i]? with
  | some m => (codL.getD (277 + i) []).all fun pe => okE m pe.1 pe.2
  | _ => false) = true := by decide +kernel
theorem cd_ok33 : ((List.range 4).all fun i => match mdL[282 + i]? with
  | some m => (codL.getD (282 + i) []).all fun pe => okE m pe.1 pe.2
  | _ => false) = true := by decide +kernel
theorem cd_ok34 : ((List.range 6).all fun i => match mdL[286 + i]? with
  | some m => (codL.getD (286 + i) []).all fun pe => okE m pe.1 pe.2
  | _ => false) = true := by decide +kernel
theorem cd_ok35 : ((List.range 6).all fun i => match mdL[292 + i]? with
  | some m => (codL.getD (292 + i) []).all fun pe => okE m pe.1 pe.2
  | _ => false) = true := by decide +kernel
theorem cd_ok36 : ((List.range 6).all fun i => match mdL[298 + i]? with
  | some m => (codL.getD (298 + i) []).all fun pe => okE m pe.1 pe.2
  | _ => false) = true := by decide +kernel
theorem cd_ok37 : ((List.range 2).all fun i => match mdL[304 + i]? with
  | some m => (codL.getD (304 + i) []).all fun pe => okE m pe.1 pe.2
  | _ => false) = true := by decide +kernel
theorem cd_chunk {n c : Nat} (h1 : ((List.range n).all fun i => match mdL[c + i]? with
  | some m => (codL.getD (c + i) []).all fun pe => okE m pe.1 pe.2
  | _ => false) = true) {x : Nat} {md : MD} (hx : mdT x = some md) (hl : c ≤ x) (hh : x < c + n) : ∀ pe ∈ codT x, okE md pe.1 pe.2 = true := by
  have e1 := List.all_eq_true.mp h1 (x - c) (List.mem_range.mpr (by omega))
  rw [show c + (x - c) = x by omega] at e1
  have hx' : mdL[x]? = some md := hx
  rw [hx'] at e1
  intro pe hpe
  exact List.all_eq_true.mp e1 pe hpe
theorem cd_all : ∀ x md, mdT x = some md → ∀ pe ∈ codT x, okE md pe.1 pe.2 = true := by
  intro x md h
  have hl : x < 306 := by
    have := (List.getElem?_eq_some_iff.mp h).1
    rw [mdL_len] at this; exact this
  by_cases h0 : x < 11
  · exact cd_chunk cd_ok0 h (by omega) (by omega)
  by_cases h1 : x < 19
  · exact cd_chunk cd_ok1 h (by omega) (by omega)
  by_cases h2 : x < 35
  · exact cd_chunk cd_ok2 h (by omega) (by omega)
  by_cases h3 : x < 49
  · exact cd_chunk cd_ok3 h (by omega) (by omega)
  by_cases h4 : x < 59
  · exact cd_chunk cd_ok4 h (by omega) (by omega)
  by_cases h5 : x < 67
  · exact cd_chunk cd_ok5 h (by omega) (by omega)
  by_cases h6 : x < 75
  · exact cd_chunk cd_ok6 h (by omega) (by omega)
  by_cases h7 : x < 84
  · exact cd_chunk cd_ok7 h (by omega) (by omega)
  by_cases h8 : x < 94
  · exact cd_chunk cd_ok8 h (by omega) (by omega)
  by_cases h9 : x < 105
  · exact cd_chunk cd_ok9 h (by omega) (by omega)
  by_cases h10 : x < 115
  · exact cd_chunk cd_ok10 h (by omega) (by omega)
  by_cases h11 : x < 124
  · exact cd_chunk cd_ok11 h (by omega) (by omega)
  by_cases h12 : x < 135
  · exact cd_chunk cd_ok12 h (by omega) (by omega)
  by_cases h13 : x < 142
  · exact cd_chunk cd_ok13 h (by omega) (by omega)
  by_cases h14 : x < 149
  · exact cd_chunk cd_ok14 h (by omega) (by omega)
  by_cases h15 : x < 157
  · exact cd_chunk cd_ok15 h (by omega) (by omega)
  by_cases h16 : x < 163
  · exact cd_chunk cd_ok16 h (by omega) (by omega)
  by_cases h17 : x < 168
  · exact cd_chunk cd_ok17 h (by omega) (by omega)
  by_cases h18 : x < 175
  · exact cd_chunk cd_ok18 h (by omega) (by omega)
  by_cases h19 : x < 182
  · exact cd_chunk cd_ok19 h (by omega) (by omega)
  by_cases h20 : x < 193
  · exact cd_chunk cd_ok20 h (by omega) (by omega)
  by_cases h21 : x < 200
  · exact cd_chunk cd_ok21 h (by omega) (by omega)
  by_cases h22 : x < 206
  · exact cd_chunk cd_ok22 h (by omega) (by omega)
  by_cases h23 : x < 217
  · exact cd_chunk cd_ok23 h (by omega) (by omega)
  by_cases h24 : x < 224
  · exact cd_chunk cd_ok24 h (by omega) (by omega)
  by_cases h25 : x < 231
  · exact cd_chunk cd_ok25 h (by omega) (by omega)
  by_cases h26 : x < 237
  · exact cd_chunk cd_ok26 h (by omega) (by omega)
  by_cases h27 : x < 245
  · exact cd_chunk cd_ok27 h (by omega) (by omega)
  by_cases h28 : x < 255
  · exact cd_chunk cd_ok28 h (by omega) (by omega)
  by_cases h29 : x < 264
  · exact cd_chunk cd_ok29 h (by omega) (by omega)
  by_cases h30 : x < 271
  · exact cd_chunk cd_ok30 h (by omega) (by omega)
  by_cases h31 : x < 277
  · exact cd_chunk cd_ok31 h (by omega) (by omega)
  by_cases h32 : x < 282
  · exact cd_chunk cd_ok32 h (by omega) (by omega)
  by_cases h33 : x < 286
  · exact cd_chunk cd_ok33 h (by omega) (by omega)
  by_cases h34 : x < 292
  · exact cd_chunk cd_ok34 h (by omega) (by omega)
  by_cases h35 : x < 298
  · exact cd_chunk cd_ok35 h (by omega) (by omega)
  by_cases h36 : x < 304
  · exact cd_chunk cd_ok36 h (by omega) (by omega)
  exact cd_chunk cd_ok37 h (by omega) (by omega)
