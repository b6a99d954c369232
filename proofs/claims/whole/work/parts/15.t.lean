/-! blocks -/
