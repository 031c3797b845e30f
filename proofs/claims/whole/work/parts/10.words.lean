theorem q83 : Cond.selects RX3 yX3_detail yX3_detail ∈ wAll := w_in (k := 83) (by decide +kernel) rfl
theorem q172 : Cond.initialized RX3 ∈ wAll := w_in (k := 172) (by decide +kernel) rfl
theorem q179 : Cond.initialized RX12 ∈ wAll := w_in (k := 179) (by decide +kernel) rfl
theorem q296 : Cond.fieldLink RX3 9 "WarmExtents$Heads" "many" "I" ∈ wAll := w_in (k := 296) (by decide +kernel) rfl
theorem q298 : Cond.fieldLink RX3 15 "WarmExtents$Heads" "awaited" "[I" ∈ wAll := w_in (k := 298) (by decide +kernel) rfl
theorem q299 : Cond.fieldLink RX3 19 "WarmExtents$Heads" "length" "[I" ∈ wAll := w_in (k := 299) (by decide +kernel) rfl
theorem q1171 : Cond.instanceMethod yX3_detail ∈ wAll := w_in (k := 1171) (by decide +kernel) rfl
theorem q1172 : Cond.code yX3_detail cX3_detail 3 (some .int) ∈ wAll := w_in (k := 1172) (by decide +kernel) rfl
theorem q1446 : Cond.methodLink RX12 52 yX12_isIn ∈ wAll := w_in (k := 1446) (by decide +kernel) rfl
theorem q1447 : Cond.static yX12_isIn ∈ wAll := w_in (k := 1447) (by decide +kernel) rfl
theorem q1448 : Cond.code yX12_isIn cX12_isIn 3 (some .boolean) ∈ wAll := w_in (k := 1448) (by decide +kernel) rfl
theorem q1534 : Cond.static yX12_isExtent ∈ wAll := w_in (k := 1534) (by decide +kernel) rfl
theorem q1535 : Cond.code yX12_isExtent cX12_isExtent 1 (some .boolean) ∈ wAll := w_in (k := 1535) (by decide +kernel) rfl
theorem okX12_isIn : gYS yX12_isIn cX12_isIn 3 (some .boolean) 3 := ⟨q1447, q1448, q179, ⟨by decide +kernel, by decide +kernel, by decide +kernel⟩, by decide⟩
theorem okX12_isExtent : gYS yX12_isExtent cX12_isExtent 1 (some .boolean) 1 := ⟨q1534, q1535, q179, ⟨by decide +kernel, by decide +kernel, by decide +kernel⟩, by decide⟩
theorem okX3_detail : gYV yX3_detail cX3_detail 3 (some .int) 2 := ⟨q1171, q83, q1172, q172, ⟨by decide +kernel, by decide +kernel, by decide +kernel⟩, by decide⟩
