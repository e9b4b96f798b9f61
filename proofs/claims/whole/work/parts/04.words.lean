-- the words stand with the methods that first use them
theorem words_none : True := trivial
