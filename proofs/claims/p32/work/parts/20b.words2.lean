/-! methods with handlers -/
theorem mokh_yL_areFieldsSound : MOKH yL_areFieldsSound cL_areFieldsSound 7 (some FieldType.boolean) [(18, 27, 30, 99)] 3 := ⟨w_962, w_0, by decide +kernel, by decide +kernel, by decide +kernel⟩
