/-! The rows of rows: their instruction's law stands in the rest of the library. -/
def ma_row := @Stand.multianewarray2F
