/** Promises 25 to 30: each sentence that names a boundary case has a test of its own. */
public final class EdgesOfMarks extends Edge {

  /** PIECES and FINDS whose MARKS are all alike, told by their weights. */
  private static Setup alike(int[] pieces, int... finds) {
    return x -> {
      for (int weight : pieces) x.mark(false, 1, 1, 1, weight);
      for (int weight : finds) x.mark(true, 1, 1, 1, weight);
    };
  }

  private static int[] of(int... weights) {
    return weights;
  }

  private static Setup filled(boolean find) {
    return x -> { for (int i = 0; i < 8; i++) x.mark(find, 1, 1, 1, 5); };
  }

  private static final Setup ALL_FILLED = x -> {
    filled(false).on(x);
    filled(true).on(x);
  };

  private static void mark() {
    for (int i = 0; i < 2; i++) {
      boolean find = i == 1;
      String name = find ? "a FIND's " : "a PIECE's ";
      range(25, name + "first sign", 0, 9, OUTSIDE, (x, v) -> x.mark(find, v, 1, 1, 5));
      range(25, name + "second sign", 0, 9, OUTSIDE, (x, v) -> x.mark(find, 1, v, 1, 5));
      range(25, name + "third sign", 0, 9, OUTSIDE, (x, v) -> x.mark(find, 1, 1, v, 5));
      range(25, name + "weight", 1, 2000, OUTSIDE, (x, v) -> x.mark(find, 1, 1, 1, v));
      for (int sign : of(NONE - 1, NONE + 1)) {
        refuses(25, name + "first sign is next to NONE", OUTSIDE, SOMETHING, x -> x.mark(find, sign, 1, 1, 5));
        refuses(25, name + "second sign is next to NONE", OUTSIDE, SOMETHING, x -> x.mark(find, 1, sign, 1, 5));
        refuses(25, name + "third sign is next to NONE", OUTSIDE, SOMETHING, x -> x.mark(find, 1, 1, sign, 5));
      }
      refuses(25, name + "weight is no NONE", OUTSIDE, SOMETHING, x -> x.mark(find, 1, 1, 1, NONE));
      holds(25, name + "first sign is worn off", 2, SOMETHING, x -> x.mark(find, NONE, 1, 1, 5));
      holds(25, name + "second sign is worn off", 2, SOMETHING, x -> x.mark(find, 1, NONE, 1, 5));
      holds(25, name + "third sign is worn off", 2, SOMETHING, x -> x.mark(find, 1, 1, NONE, 5));
      holds(25, name + "signs are all worn off", 2, SOMETHING, x -> x.mark(find, NONE, NONE, NONE, 5));
      holds(25, name + "number is 0 at first", 0, NOTHING, x -> x.mark(find, 1, 1, 1, 5));
      holds(25, name + "number is 7 at last", 7, x -> { for (int n = 0; n < 7; n++) x.mark(find, 1, 1, 1, 5); },
          x -> x.mark(find, 1, 1, 1, 5));
      refuses(25, name + "ninth is FULL", FULL, filled(find), x -> x.mark(find, 1, 1, 1, 5));
      refuses(25, name + "ninth is FULL, the others too", FULL, ALL_FILLED, x -> x.mark(find, 1, 1, 1, 5));
      refuses(25, name + "sign OUTSIDE goes ahead of FULL", OUTSIDE, filled(find), x -> x.mark(find, 1, 1, 10, 5));
      refuses(25, name + "weight OUTSIDE goes ahead of FULL", OUTSIDE, filled(find), x -> x.mark(find, 1, 1, 1, 0));
      holds(25, name + "number is 0 though the others are full", 0, filled(!find), x -> x.mark(find, 1, 1, 1, 5));
      holds(25, name + "refused one takes no number", 0, x -> x.mark(find, 1, 1, 1, 0), x -> x.mark(find, 1, 1, 1, 5));
    }
  }

  private static void clear() {
    holds(26, "there were none", 0, NOTHING, x -> x.clear());
    holds(26, "there were as many as there may be", 16, ALL_FILLED, x -> x.clear());
    holds(26, "PIECES only", 8, filled(false), x -> x.clear());
    holds(26, "FINDS only", 8, filled(true), x -> x.clear());
    holds(26, "a second time there are none", 0, x -> {
      ALL_FILLED.on(x);
      x.clear();
    }, x -> x.clear());
    Setup cleared = x -> {
      ALL_FILLED.on(x);
      x.clear();
    };
    refuses(27, "taken away: cost()", UNKNOWN, cleared, x -> x.cost(0, 0));
    refuses(29, "taken away: joined()", UNKNOWN, cleared, x -> x.joined(0));
    refuses(30, "taken away: certain()", UNKNOWN, cleared, x -> x.certain(0));
    holds(26, "no pair is left", 0, cleared, x -> x.join(false));
    holds(26, "no PIECE is counted", 0, cleared, x -> x.count(3));
    holds(26, "no FIND is counted", 0, cleared, x -> x.count(4));
    holds(26, "PIECES begin at 0 again", 0, cleared, x -> x.mark(false, 1, 1, 1, 5));
    holds(26, "FINDS begin at 0 again", 0, cleared, x -> x.mark(true, 1, 1, 1, 5));
    holds(26, "there is room for eight again", 7, x -> {
      cleared.on(x);
      for (int i = 0; i < 7; i++) x.mark(true, 1, 1, 1, 5);
    }, x -> x.mark(true, 1, 1, 1, 5));
    holds(26, "nothing of the old signs and weights is left", 3, x -> {
      cleared.on(x);
      x.mark(false, 2, 2, 2, 900);
      x.mark(true, 2, 2, 2, 903);
    }, x -> x.cost(0, 0));
    holds(26, "nothing else is taken away", 4, x -> {
      SOMETHING.on(x);
      x.clear();
    }, x -> x.count(5));
  }

  /** One PIECE and one FIND. */
  private static Setup pair(int[] piece, int... find) {
    return x -> {
      x.mark(false, piece[0], piece[1], piece[2], piece[3]);
      x.mark(true, find[0], find[1], find[2], find[3]);
    };
  }

  private static void cost() {
    range(27, "piece", 0, 1, UNKNOWN, (x, v) -> x.cost(v, 0));
    range(27, "find", 0, 1, UNKNOWN, (x, v) -> x.cost(0, v));
    range(27, "piece, all there may be", 0, 7, UNKNOWN, ALL_FILLED, (x, v) -> x.cost(v, 7));
    range(27, "find, all there may be", 0, 7, UNKNOWN, ALL_FILLED, (x, v) -> x.cost(7, v));
    refuses(27, "no PIECE, but FINDS", UNKNOWN, filled(true), x -> x.cost(0, 0));
    refuses(27, "no FIND, but PIECES", UNKNOWN, filled(false), x -> x.cost(0, 0));
    holds(27, "like in all", 0, pair(of(0, 9, 5, 1), 0, 9, 5, 1), x -> x.cost(0, 0));
    holds(27, "20 apart, the FIND is heavier", 20, pair(of(1, 2, 3, 100), 1, 2, 3, 120), x -> x.cost(0, 0));
    holds(27, "21 apart, the FIND is heavier", NONE, pair(of(1, 2, 3, 100), 1, 2, 3, 121), x -> x.cost(0, 0));
    holds(27, "20 apart, the PIECE is heavier", 20, pair(of(1, 2, 3, 120), 1, 2, 3, 100), x -> x.cost(0, 0));
    holds(27, "21 apart, the PIECE is heavier", NONE, pair(of(1, 2, 3, 121), 1, 2, 3, 100), x -> x.cost(0, 0));
    holds(27, "as far apart as can be", NONE, pair(of(1, 2, 3, 1), 1, 2, 3, 2000), x -> x.cost(0, 0));
    holds(27, "9 apart is no NONE", 9, pair(of(1, 2, 3, 100), 1, 2, 3, 109), x -> x.cost(0, 0));
    holds(27, "the first sign is unlike", NONE, pair(of(1, 2, 3, 100), 0, 2, 3, 100), x -> x.cost(0, 0));
    holds(27, "the second sign is unlike", NONE, pair(of(1, 2, 3, 100), 1, 3, 3, 100), x -> x.cost(0, 0));
    holds(27, "the third sign is unlike", NONE, pair(of(1, 2, 3, 100), 1, 2, 9, 100), x -> x.cost(0, 0));
    holds(27, "like signs at other places are unlike", NONE, pair(of(1, 2, 3, 100), 3, 2, 1, 100), x -> x.cost(0, 0));
    for (int place = 0; place < 3; place++) {
      int[] whole = {1, 2, 3, 100}, worn = {1, 2, 3, 100}, other = {1, 2, 3, 100};
      worn[place] = NONE;
      other[(place + 1) % 3] = NONE;
      holds(27, "the PIECE's sign " + place + " is worn off", 10, pair(worn, whole), x -> x.cost(0, 0));
      holds(27, "the FIND's sign " + place + " is worn off", 10, pair(whole, worn), x -> x.cost(0, 0));
      holds(27, "both have sign " + place + " worn off: one place", 10, pair(worn, worn), x -> x.cost(0, 0));
      holds(27, "sign " + place + " and the next are worn off: two places", 20, pair(worn, other), x -> x.cost(0, 0));
    }
    holds(27, "a sign worn off hides that it is unlike, not the others", NONE, pair(of(NONE, 2, 3, 100), 1, 2, 4, 100), x -> x.cost(0, 0));
    holds(27, "all signs worn off and 20 apart", 50, pair(of(NONE, NONE, NONE, 100), 1, 2, 3, 120), x -> x.cost(0, 0));
    holds(27, "all signs worn off and 21 apart", NONE, pair(of(NONE, NONE, NONE, 100), 1, 2, 3, 121), x -> x.cost(0, 0));
    holds(27, "a sign of 0 is a sign", NONE, pair(of(0, 2, 3, 100), 1, 2, 3, 100), x -> x.cost(0, 0));
  }

  private static void join() {
    holds(28, "nothing: pairs", 0, NOTHING, x -> x.join(false));
    holds(28, "nothing: cost", 0, NOTHING, x -> x.join(true));
    holds(28, "PIECES only: pairs", 0, filled(false), x -> x.join(false));
    holds(28, "PIECES only: cost", 0, filled(false), x -> x.join(true));
    holds(28, "FINDS only: pairs", 0, filled(true), x -> x.join(false));
    holds(28, "FINDS only: cost", 0, filled(true), x -> x.join(true));
    holds(28, "none MAY BE ONE: pairs", 0, alike(of(100), 121), x -> x.join(false));
    holds(28, "none MAY BE ONE: cost", 0, alike(of(100), 121), x -> x.join(true));
    holds(28, "a pair that costs nothing is a pair", 1, alike(of(100), 100), x -> x.join(false));
    holds(28, "a pair that costs nothing", 0, alike(of(100), 100), x -> x.join(true));
    holds(28, "none in two: two PIECES, one FIND", 1, alike(of(100, 100), 100), x -> x.join(false));
    holds(28, "none in two: one PIECE, two FINDS", 1, alike(of(100), 100, 100), x -> x.join(false));
    holds(28, "as many as can be, though dearer: pairs", 2, alike(of(100, 80), 100, 120), x -> x.join(false));
    holds(28, "as many as can be, though dearer: cost", 40, alike(of(100, 80), 100, 120), x -> x.join(true));
    holds(28, "of these the least cost", 1, alike(of(100, 110), 111, 100), x -> x.join(true));
    holds(28, "the least cost, one PIECE of two", 3, alike(of(100, 107), 110), x -> x.join(true));
    holds(28, "eight pairs", 8, ALL_FILLED, x -> x.join(false));
    Setup dearest = x -> {
      for (int i = 0; i < 8; i++) x.mark(false, NONE, NONE, NONE, 1980);
      for (int i = 0; i < 8; i++) x.mark(true, NONE, NONE, NONE, 2000);
    };
    holds(28, "eight pairs of the dearest: pairs", 8, dearest, x -> x.join(false));
    holds(28, "eight pairs of the dearest: cost", 400, dearest, x -> x.join(true));
    holds(28, "a chain in which all must give way: pairs", 8,
        alike(of(100, 120, 140, 160, 180, 200, 220, 80), 100, 120, 140, 160, 180, 200, 220, 240), x -> x.join(false));
    holds(28, "a chain in which all must give way: cost", 160,
        alike(of(100, 120, 140, 160, 180, 200, 220, 80), 100, 120, 140, 160, 180, 200, 220, 240), x -> x.join(true));
  }

  private static void joined() {
    range(29, "piece", 0, 1, UNKNOWN, (x, v) -> x.joined(v));
    range(29, "piece, all there may be", 0, 7, UNKNOWN, ALL_FILLED, (x, v) -> x.joined(v));
    refuses(29, "no PIECE, but FINDS", UNKNOWN, filled(true), x -> x.joined(0));
    holds(29, "no FIND", NONE, filled(false), x -> x.joined(0));
    holds(29, "no FIND that it MAY BE", NONE, alike(of(100), 121), x -> x.joined(0));
    holds(29, "the first FIND", 0, alike(of(100), 120), x -> x.joined(0));
    holds(29, "the lesser FIND of like ones", 0, alike(of(100), 90, 110), x -> x.joined(0));
    holds(29, "the greater FIND, 1 cheaper", 1, alike(of(100), 90, 109), x -> x.joined(0));
    holds(29, "having none is behind all: the first PIECE has it", 0, alike(of(100, 100), 100), x -> x.joined(0));
    holds(29, "having none is behind all: the second has none", NONE, alike(of(100, 100), 100), x -> x.joined(1));
    holds(29, "the second PIECE, 1 cheaper: the first has none", NONE, alike(of(101, 100), 100), x -> x.joined(0));
    holds(29, "the second PIECE, 1 cheaper", 0, alike(of(101, 100), 100), x -> x.joined(1));
    holds(29, "PIECE by PIECE: crosswise is like, the first has the lesser", 0, alike(of(100, 105), 110, 105), x -> x.joined(0));
    holds(29, "PIECE by PIECE: the second has what is left", 1, alike(of(100, 105), 110, 105), x -> x.joined(1));
    holds(29, "as many as can be: the first gives way", 1, alike(of(100, 80), 100, 120), x -> x.joined(0));
    for (int piece = 0; piece < 8; piece++) {
      int p = piece;
      holds(29, "all are alike, PIECE " + p, p, ALL_FILLED, x -> x.joined(p));
      holds(29, "the other way round, PIECE " + p, 7 - p,
          alike(of(100, 200, 300, 400, 500, 600, 700, 800), 800, 700, 600, 500, 400, 300, 200, 100), x -> x.joined(p));
    }
  }

  private static void certain() {
    range(30, "piece", 0, 1, UNKNOWN, (x, v) -> x.certain(v));
    range(30, "piece, all there may be", 0, 7, UNKNOWN, ALL_FILLED, (x, v) -> x.certain(v));
    refuses(30, "no PIECE, but FINDS", UNKNOWN, filled(true), x -> x.certain(0));
    holds(30, "one PIECE, one FIND", 1, alike(of(100), 100), x -> x.certain(0));
    holds(30, "no FIND at all: none in each", 1, filled(false), x -> x.certain(0));
    holds(30, "no FIND that it MAY BE: none in each", 1, alike(of(100), 121), x -> x.certain(0));
    holds(30, "two FINDS at like cost", 0, alike(of(100), 90, 110), x -> x.certain(0));
    holds(30, "two FINDS, one is 1 cheaper", 1, alike(of(100), 90, 109), x -> x.certain(0));
    holds(30, "two FINDS at like cost, a third is cheaper", 1, alike(of(100), 90, 110, 101), x -> x.certain(0));
    holds(30, "a cheaper FIND, then two at like cost", 1, alike(of(100), 101, 90, 110), x -> x.certain(0));
    holds(30, "two like PIECES, one FIND: the one that has it", 0, alike(of(100, 100), 100), x -> x.certain(0));
    holds(30, "two like PIECES, one FIND: the one that has none", 0, alike(of(100, 100), 100), x -> x.certain(1));
    holds(30, "two PIECES, one FIND, 1 cheaper: the one that has it", 1, alike(of(101, 100), 100), x -> x.certain(1));
    holds(30, "two PIECES, one FIND, 1 cheaper: the one that has none", 1, alike(of(101, 100), 100), x -> x.certain(0));
    holds(30, "crosswise is like", 0, alike(of(100, 105), 110, 105), x -> x.certain(1));
    holds(30, "crosswise is dearer", 1, alike(of(100, 110), 100, 110), x -> x.certain(1));
    holds(30, "fewer pairs at less cost are no such JOIN", 1, alike(of(100, 80), 100, 120), x -> x.certain(0));
    holds(30, "others are not certain, but it is", 1, alike(of(100, 100, 500), 100, 100, 500), x -> x.certain(2));
    holds(30, "it is certain to have none, though it MAY BE one", 1, alike(of(100, 120), 100), x -> x.certain(1));
    for (int piece = 0; piece < 8; piece++) {
      int p = piece;
      holds(30, "all are alike, PIECE " + p, 0, ALL_FILLED, x -> x.certain(p));
      holds(30, "each has its own, PIECE " + p, 1,
          alike(of(100, 200, 300, 400, 500, 600, 700, 800), 800, 700, 600, 500, 400, 300, 200, 100), x -> x.certain(p));
    }
  }

  public static void main(String[] args) {
    mark();
    clear();
    cost();
    join();
    joined();
    certain();
    end(25, 30);
  }
}
