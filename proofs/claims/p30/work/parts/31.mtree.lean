section QTREE
variable {g : zSt} {m b t x w k : Int}
def qal (r : Int → Int) (b t : Int) : Bool := qsw r b && qwh r b t
end QTREE

