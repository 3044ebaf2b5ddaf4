/-! more words -/
