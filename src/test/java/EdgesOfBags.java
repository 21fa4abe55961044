/** Promises 31 to 35: each sentence that names a boundary case has a test of its own. */
public final class EdgesOfBags extends Edge {

  private static void doubted() {
    range(31, "N", 1, 60, OUTSIDE, (x, v) -> x.doubted(v, 1, 0, 0));
    range(31, "m of 5", 1, 5, OUTSIDE, (x, v) -> x.doubted(5, v, 0, 0));
    range(31, "m of 60", 1, 60, OUTSIDE, (x, v) -> x.doubted(60, v, 0, 0));
    range(31, "m of 1", 1, 1, OUTSIDE, (x, v) -> x.doubted(1, v, 0, 0));
    range(31, "x of 3", 0, 3, OUTSIDE, (x, v) -> x.doubted(5, 3, v, v));
    range(31, "x of 60", 0, 60, OUTSIDE, (x, v) -> x.doubted(60, 60, v, v));
    range(31, "T from x to N - m + x", 2, 8, OUTSIDE, (x, v) -> x.doubted(10, 4, 2, v));
    range(31, "T of nothing found", 0, 6, OUTSIDE, (x, v) -> x.doubted(10, 4, 0, v));
    range(31, "T of a piece in each", 4, 10, OUTSIDE, (x, v) -> x.doubted(10, 4, 4, v));
    range(31, "T where all were searched", 7, 7, OUTSIDE, (x, v) -> x.doubted(60, 60, 7, v));
    refuses(31, "N, m, x and T wrap around below", OUTSIDE, NOTHING, x -> x.doubted(MIN, MIN, MIN, MIN));
    refuses(31, "N, m, x and T wrap around above", OUTSIDE, NOTHING, x -> x.doubted(MAX, MAX, MAX, MAX));
    refuses(31, "no bag", OUTSIDE, NOTHING, x -> x.doubted(0, 0, 0, 0));
    // One drawn of N: T ways of N hold a piece, N - T ways hold none.
    holds(31, "x and fewer are just one in twenty", 0, NOTHING, x -> x.doubted(20, 1, 0, 19));
    holds(31, "x and fewer are less than one in twenty", 1, NOTHING, x -> x.doubted(21, 1, 0, 20));
    holds(31, "x and fewer are more than one in twenty", 0, NOTHING, x -> x.doubted(19, 1, 0, 18));
    holds(31, "x and more are just one in twenty", 0, NOTHING, x -> x.doubted(20, 1, 1, 1));
    holds(31, "x and more are less than one in twenty", 1, NOTHING, x -> x.doubted(21, 1, 1, 1));
    holds(31, "x and more are more than one in twenty", 0, NOTHING, x -> x.doubted(19, 1, 1, 1));
    holds(31, "just one in twenty, of 40", 0, NOTHING, x -> x.doubted(40, 1, 0, 38));
    holds(31, "less than one in twenty, of 40", 1, NOTHING, x -> x.doubted(40, 1, 0, 39));
    holds(31, "just one in twenty, of 60", 0, NOTHING, x -> x.doubted(60, 1, 1, 3));
    holds(31, "less than one in twenty, of 60", 1, NOTHING, x -> x.doubted(60, 1, 1, 2));
    // Three drawn of six, T = 3: 1, 9, 9, 1 ways of 20 hold none, one, two, three.
    holds(31, "just one in twenty, three drawn, none found", 0, NOTHING, x -> x.doubted(6, 3, 0, 3));
    holds(31, "just one in twenty, three drawn, all found", 0, NOTHING, x -> x.doubted(6, 3, 3, 3));
    // Two drawn of seven, T = 2: 1 of 21 ways holds two; T = 5: 1 of 21 holds none.
    holds(31, "one in 21, two drawn, all found", 1, NOTHING, x -> x.doubted(7, 2, 2, 2));
    holds(31, "one in 21, two drawn, none found", 1, NOTHING, x -> x.doubted(7, 2, 0, 5));
    holds(31, "x itself is among x and fewer, and among x and more", 0, NOTHING, x -> x.doubted(2, 1, 1, 1));
    holds(31, "no bag holds one: all ways have x and fewer", 0, NOTHING, x -> x.doubted(60, 59, 0, 0));
    holds(31, "each bag holds one: all ways have x and more", 0, NOTHING, x -> x.doubted(60, 59, 59, 60));
    holds(31, "one bag, none found", 0, NOTHING, x -> x.doubted(1, 1, 0, 0));
    holds(31, "one bag, one found", 0, NOTHING, x -> x.doubted(1, 1, 1, 1));
    holds(31, "all searched, T is x", 0, NOTHING, x -> x.doubted(60, 60, 30, 30));
    holds(31, "the most ways there can be, half found", 0, NOTHING, x -> x.doubted(60, 30, 15, 30));
    holds(31, "the most ways there can be, T is least", 1, NOTHING, x -> x.doubted(60, 30, 15, 15));
    holds(31, "the most ways there can be, T is greatest", 1, NOTHING, x -> x.doubted(60, 30, 15, 45));
  }

  private static void bound() {
    for (int i = 0; i < 2; i++) {
      boolean greatest = i == 1;
      range(32, "N", 1, 60, OUTSIDE, (x, v) -> x.bound(v, 1, 0, greatest));
      range(32, "m of 5", 1, 5, OUTSIDE, (x, v) -> x.bound(5, v, 0, greatest));
      range(32, "m of 60", 1, 60, OUTSIDE, (x, v) -> x.bound(60, v, 0, greatest));
      range(32, "x of 3", 0, 3, OUTSIDE, (x, v) -> x.bound(5, 3, v, greatest));
      range(32, "x of 60", 0, 60, OUTSIDE, (x, v) -> x.bound(60, 60, v, greatest));
      refuses(32, "N, m and x wrap around", OUTSIDE, NOTHING, x -> x.bound(MIN, MIN, MIN, greatest));
      holds(32, "all searched, none found", 0, NOTHING, x -> x.bound(60, 60, 0, greatest));
      holds(32, "all searched, all found", 60, NOTHING, x -> x.bound(60, 60, 60, greatest));
      holds(32, "one bag, none found", 0, NOTHING, x -> x.bound(1, 1, 0, greatest));
      holds(32, "one bag, one found", 1, NOTHING, x -> x.bound(1, 1, 1, greatest));
    }
    holds(32, "T from x: the least is x", 1, NOTHING, x -> x.bound(20, 1, 1, false));
    holds(32, "x is DOUBTED: the least is above it", 2, NOTHING, x -> x.bound(21, 1, 1, false));
    holds(32, "nothing found: the least is 0", 0, NOTHING, x -> x.bound(60, 1, 0, false));
    holds(32, "T to N - m + x: the greatest is that", 19, NOTHING, x -> x.bound(20, 1, 0, true));
    holds(32, "N - m + x is DOUBTED: the greatest is below it", 19, NOTHING, x -> x.bound(21, 1, 0, true));
    holds(32, "a piece in each: the greatest is N", 60, NOTHING, x -> x.bound(60, 1, 1, true));
    holds(32, "just one in twenty is within: least", 3, NOTHING, x -> x.bound(60, 1, 1, false));
    holds(32, "just one in twenty is within: greatest", 57, NOTHING, x -> x.bound(60, 1, 0, true));
    holds(32, "ahead of the least and behind the greatest all are DOUBTED, these two are not", 0, NOTHING, x -> {
      int faults = 0;
      for (int n = 1; n <= 60; n += n < 24 ? 1 : 12)
        for (int m = 1; m <= n; m++)
          for (int found = 0; found <= m; found++) faults += boundsAreEdges(n, m, found) ? 0 : 1;
      return faults;
    });
  }

  /** So never NONE either: there always is a T that is not DOUBTED. */
  private static boolean boundsAreEdges(int n, int m, int found) {
    HotelSilver x = new HotelSilver();
    int least = x.bound(n, m, found, false), greatest = x.bound(n, m, found, true);
    if (least < found || greatest > n - m + found || least > greatest) return false;
    for (int t = found; t <= n - m + found; t++) {
      boolean doubted = x.doubted(n, m, found, t) == 1;
      if ((t < least || t > greatest) && !doubted) return false;
      if ((t == least || t == greatest) && doubted) return false;
    }
    return true;
  }

  private static final Setup SIXTY = x -> { for (int i = 0; i < 60; i++) x.broke(i % 4, i % 3, 99); };

  private static void broke() {
    range(33, "night", 0, 999, OUTSIDE, (x, v) -> x.broke(v, 0, 5));
    range(33, "shift", 0, 2, OUTSIDE, (x, v) -> x.broke(5, v, 5));
    range(33, "n", 1, 99, OUTSIDE, (x, v) -> x.broke(5, 0, v));
    holds(33, "the first: there is one", 1, NOTHING, x -> x.broke(0, 0, 1));
    holds(33, "the sixtieth", 60, x -> { for (int i = 0; i < 59; i++) x.broke(i, i % 3, 1); }, x -> x.broke(0, 0, 1));
    refuses(33, "a 61st is FULL", FULL, SIXTY, x -> x.broke(0, 0, 1));
    refuses(33, "a 61st is FULL, of a SHIFT that has none", FULL, x -> { for (int i = 0; i < 60; i++) x.broke(i, 0, 1); },
        x -> x.broke(0, 2, 1));
    refuses(33, "night OUTSIDE goes ahead of FULL", OUTSIDE, SIXTY, x -> x.broke(1000, 0, 1));
    refuses(33, "shift OUTSIDE goes ahead of FULL", OUTSIDE, SIXTY, x -> x.broke(0, 3, 1));
    refuses(33, "n OUTSIDE goes ahead of FULL", OUTSIDE, SIXTY, x -> x.broke(0, 0, 100));
    holds(33, "all SHIFTS together", 3, x -> {
      x.broke(5, 0, 9);
      x.broke(5, 1, 9);
    }, x -> x.broke(5, 2, 9));
    holds(33, "the same again is one more", 2, x -> x.broke(5, 0, 9), x -> x.broke(5, 0, 9));
    holds(33, "a refused one is none", 1, x -> x.broke(5, 0, 100), x -> x.broke(5, 0, 9));
  }

  /** SHIFT 1 broke 1, 2, 4, .. pieces on these NIGHTS. */
  private static Setup nights(int... nights) {
    return x -> { for (int i = 0; i < nights.length; i++) x.broke(nights[i], 1, 1 << i); };
  }

  private static void told() {
    range(34, "shift", 0, 2, OUTSIDE, (x, v) -> x.told(v, 0, 999));
    range(34, "from, up to 999", 0, 999, OUTSIDE, (x, v) -> x.told(0, v, 999));
    range(34, "from, up to 5", 0, 5, OUTSIDE, (x, v) -> x.told(0, v, 5));
    range(34, "to, from 0", 0, 999, OUTSIDE, (x, v) -> x.told(0, 0, v));
    range(34, "to, from 5", 5, 999, OUTSIDE, (x, v) -> x.told(0, 5, v));
    refuses(34, "to is below from by 1", OUTSIDE, SOMETHING, x -> x.told(0, 999, 998));
    refuses(34, "both nights are above", OUTSIDE, SOMETHING, x -> x.told(0, 1000, 1000));
    refuses(34, "both nights are below", OUTSIDE, SOMETHING, x -> x.told(0, -1, -1));
    refuses(34, "from and to wrap around", OUTSIDE, SOMETHING, x -> x.told(0, MIN, MAX));
    holds(34, "nothing broke", NONE, NOTHING, x -> x.told(0, 0, 999));
    holds(34, "one NIGHT", NONE, nights(5), x -> x.told(1, 0, 999));
    holds(34, "two NIGHTS", NONE, nights(5, 6), x -> x.told(1, 0, 999));
    holds(34, "three NIGHTS", 7, nights(5, 6, 7), x -> x.told(1, 0, 999));
    holds(34, "four NIGHTS", 15, nights(5, 6, 7, 8), x -> x.told(1, 0, 999));
    holds(34, "unlike NIGHTS: three times one", NONE, nights(5, 5, 5), x -> x.told(1, 0, 999));
    holds(34, "unlike NIGHTS: two and one again", NONE, nights(5, 6, 5), x -> x.told(1, 0, 999));
    holds(34, "three NIGHTS and one again, told together", 15, nights(5, 6, 5, 7), x -> x.told(1, 0, 999));
    holds(34, "NIGHTS in any order", 7, nights(999, 0, 500), x -> x.told(1, 0, 999));
    holds(34, "from and to are within", 7, nights(5, 6, 7), x -> x.told(1, 5, 7));
    holds(34, "the first NIGHT is ahead of from", NONE, nights(5, 6, 7), x -> x.told(1, 6, 7));
    holds(34, "the last NIGHT is behind to", NONE, nights(5, 6, 7), x -> x.told(1, 5, 6));
    holds(34, "what lies ahead of from is not told", 14, nights(5, 6, 7, 8), x -> x.told(1, 6, 999));
    holds(34, "what lies behind to is not told", 7, nights(5, 6, 7, 8), x -> x.told(1, 0, 7));
    holds(34, "NIGHTS 0 and 999", 7, nights(0, 1, 999), x -> x.told(1, 0, 999));
    holds(34, "NIGHT 0 alone", NONE, nights(0, 0, 0), x -> x.told(1, 0, 0));
    holds(34, "NIGHT 999 alone", NONE, nights(999, 999, 999), x -> x.told(1, 999, 999));
    holds(34, "two NIGHTS wide at most", NONE, nights(5, 6, 5, 6), x -> x.told(1, 5, 6));
    for (int shift = 0; shift < 3; shift += 2) {
      int s = shift;
      holds(34, "a third NIGHT of SHIFT " + s + " is none of SHIFT 1", NONE, x -> {
        nights(5, 6).on(x);
        x.broke(7, s, 9);
      }, x -> x.told(1, 0, 999));
      holds(34, "pieces of SHIFT " + s + " are none of SHIFT 1", 7, x -> {
        nights(5, 6, 7).on(x);
        x.broke(7, s, 9);
      }, x -> x.told(1, 0, 999));
      holds(34, "a NIGHT that SHIFT " + s + " had first is SHIFT 1's too", 7, x -> {
        x.broke(7, s, 9);
        nights(5, 6, 7).on(x);
      }, x -> x.told(1, 0, 999));
    }
    holds(34, "as much as can be told", 60 * 99, x -> { for (int i = 0; i < 60; i++) x.broke(i % 3, 2, 99); }, x -> x.told(2, 0, 2));
  }

  private static void count() {
    range(35, "what", 0, 6, OUTSIDE, (x, v) -> x.count(v));
    for (int what = 0; what <= 6; what++) {
      int w = what;
      holds(35, "nothing yet, what " + w, 0, NOTHING, x -> x.count(w));
    }
    Setup sixKinds = x -> { for (int i = 0; i < 7; i++) x.kind(1, 1); };
    holds(35, "all KINDS there may be", 6, sixKinds, x -> x.count(0));
    Setup forty = x -> {
      x.kind(1, 1);
      for (int i = 0; i < 41; i++) x.weigh(0, 0, 1, 1);
    };
    holds(35, "all WEIGHINGS there may be", 40, forty, x -> x.count(1));
    holds(35, "one that counts no more is not counted", 39, x -> { forty.on(x); x.drop(39); }, x -> x.count(1));
    holds(35, "none counts", 0, x -> { forty.on(x); for (int i = 0; i < 40; i++) x.drop(i); }, x -> x.count(1));
    holds(35, "one dropped twice is one", 39, x -> { forty.on(x); x.drop(0); x.drop(0); }, x -> x.count(1));
    Setup twelve = x -> {
      x.kind(1, 1);
      for (int i = 0; i < 13; i++) x.event(i, 0, 0, 1);
    };
    holds(35, "all EVENTS there may be", 12, twelve, x -> x.count(2));
    holds(35, "one that is off is not counted", 11, x -> { twelve.on(x); x.off(11); }, x -> x.count(2));
    holds(35, "none is on", 0, x -> { twelve.on(x); for (int i = 0; i < 12; i++) x.off(i); }, x -> x.count(2));
    holds(35, "EVENTS that can't be served are on", 1, x -> { x.kind(1, 1); x.event(0, 0, 0, 1); }, x -> x.count(2));
    holds(35, "all PIECES there may be", 8, x -> { for (int i = 0; i < 9; i++) x.mark(false, 1, 1, 1, 1); }, x -> x.count(3));
    holds(35, "PIECES are no FINDS", 0, x -> { for (int i = 0; i < 9; i++) x.mark(false, 1, 1, 1, 1); }, x -> x.count(4));
    holds(35, "all FINDS there may be", 8, x -> { for (int i = 0; i < 9; i++) x.mark(true, 1, 1, 1, 1); }, x -> x.count(4));
    holds(35, "FINDS are no PIECES", 0, x -> { for (int i = 0; i < 9; i++) x.mark(true, 1, 1, 1, 1); }, x -> x.count(3));
    holds(35, "all BREAKAGES there may be", 60, x -> { for (int i = 0; i < 61; i++) x.broke(1, 1, 99); }, x -> x.count(5));
    Setup fullBook = x -> {
      sixKinds.on(x);
      for (int i = 0; i < 30; i++) x.book(i / 6, i % 6, 999);
    };
    holds(35, "THE BOOK as great as can be", 30 * 999, fullBook, x -> x.count(6));
    holds(35, "THE BOOK with the last one less", 30 * 999 - 998, x -> { fullBook.on(x); x.book(4, 5, 1); }, x -> x.count(6));
    holds(35, "THE BOOK, not what the LEDGER says", 30 * 999, x -> { fullBook.on(x); x.ledger(0, 0, 0, 5); }, x -> x.count(6));
    holds(35, "counting changes nothing", 60, x -> { SIXTY.on(x); for (int i = -1; i < 8; i++) x.count(i); }, x -> x.count(5));
  }

  public static void main(String[] args) {
    doubted();
    bound();
    broke();
    told();
    count();
    end(31, 35);
  }
}
