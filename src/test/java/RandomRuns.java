import java.math.BigInteger;
import java.util.ArrayList;
import java.util.Arrays;
import java.util.HashMap;
import java.util.List;
import java.util.Map;
import java.util.Random;
import java.util.TreeMap;
import java.util.TreeSet;

/** Drawn runs of calls, each answer held against a plain model that tries everything or goes another way. */
public final class RandomRuns {
  private static int wrong = 0;

  /** The document's words in their plainest form, without any thought for speed. */
  static final class Plain {
    static final int UNKNOWN = -1, OUTSIDE = -2, STATE = -3, FULL = -4, NONE = -9;
    final List<int[]> kinds = new ArrayList<>();
    final int[][] book = new int[5][6];
    final int[][][] ledger = new int[5][6][3];
    final List<int[]> weighings = new ArrayList<>(); // house, kind, weight, give, counts
    final int[][] far = new int[5][5];
    final List<int[]> events = new ArrayList<>(); // day, house, kind, need, on
    final int[][] lots = new int[4][];
    int crew = 1;
    final List<int[]> pieces = new ArrayList<>();
    final List<int[]> finds = new ArrayList<>();
    final List<int[]> breakages = new ArrayList<>();

    Plain() {
      for (int a = 0; a < 5; a++) for (int b = 0; b < 5; b++) far[a][b] = a == b ? 0 : 1;
      for (int l = 0; l < 4; l++) lots[l] = new int[] {100, 100, 10, 20};
    }

    static boolean in(int v, int a, int b) { return v >= a && v <= b; }
    boolean hk(int house, int kind) { return in(house, 0, 4) && in(kind, 0, kinds.size() - 1); }

    int kind(int low, int high) {
      if (!in(low, 1, 2000) || !in(high, 1, 2000) || high < low) return OUTSIDE;
      if (kinds.size() == 6) return FULL;
      kinds.add(new int[] {low, high});
      return kinds.size() - 1;
    }
    int book(int house, int kind, int n) {
      if (!hk(house, kind)) return UNKNOWN;
      if (!in(n, 0, 999)) return OUTSIDE;
      int was = book[house][kind];
      book[house][kind] = n;
      return was;
    }
    int weigh(int house, int kind, int weight, int give) {
      if (!hk(house, kind)) return UNKNOWN;
      if (!in(weight, 0, 2000000) || !in(give, 0, 500)) return OUTSIDE;
      if (weighings.size() == 40) return FULL;
      weighings.add(new int[] {house, kind, weight, give, 1});
      return weighings.size() - 1;
    }
    int drop(int w) {
      if (!in(w, 0, weighings.size() - 1)) return UNKNOWN;
      if (weighings.get(w)[4] == 0) return STATE;
      weighings.get(w)[4] = 0;
      return 1;
    }
    List<Integer> sureNumbers(int house, int kind, int upTo) {
      List<Integer> let = new ArrayList<>();
      for (int n = 0; n <= 2000; n++) {
        boolean all = true;
        for (int i = 0; i < upTo; i++) {
          int[] w = weighings.get(i);
          if (w[4] == 0 || w[0] != house || w[1] != kind) continue;
          long low = (long) n * kinds.get(kind)[0], high = (long) n * kinds.get(kind)[1];
          if (!(low <= w[2] + w[3] && high >= w[2] - w[3])) all = false;
        }
        if (all) let.add(n);
      }
      return let;
    }
    int sure(int house, int kind, boolean greatest) {
      if (!hk(house, kind)) return UNKNOWN;
      List<Integer> let = sureNumbers(house, kind, weighings.size());
      return let.isEmpty() ? NONE : let.get(greatest ? let.size() - 1 : 0);
    }
    int quarrel(int house, int kind) {
      if (!hk(house, kind)) return UNKNOWN;
      for (int w = 0; w < weighings.size(); w++) if (sureNumbers(house, kind, w + 1).isEmpty()) return w;
      return NONE;
    }
    List<Integer> pairs(int one, int other, int weight, int give) {
      List<Integer> let = new ArrayList<>();
      for (int a = 0; a <= 200; a++) for (int b = 0; b <= 200; b++) {
        int low = a * kinds.get(one)[0] + b * kinds.get(other)[0];
        int high = a * kinds.get(one)[1] + b * kinds.get(other)[1];
        if (low <= weight + give && high >= weight - give) let.add(1000 * a + b);
      }
      return let;
    }
    int tray(int one, int other, int weight, int give) {
      if (!hk(0, one) || !hk(0, other)) return UNKNOWN;
      if (!in(weight, 0, 2000000) || !in(give, 0, 500)) return OUTSIDE;
      if (one == other) return STATE;
      return pairs(one, other, weight, give).size();
    }
    int trayPair(int one, int other, int weight, int give, int i) {
      int n = tray(one, other, weight, give);
      if (n < 0) return n;
      return in(i, 0, n - 1) ? pairs(one, other, weight, give).get(i) : NONE;
    }
    int ledger(int house, int kind, int what, int n) {
      if (!hk(house, kind)) return UNKNOWN;
      if (!in(what, 0, 2) || !in(n, 0, 999)) return OUTSIDE;
      int was = ledger[house][kind][what];
      ledger[house][kind][what] = n;
      return was;
    }
    int missing(int house, int kind, boolean most) {
      if (!hk(house, kind)) return UNKNOWN;
      int sure = sure(house, kind, !most);
      if (sure == NONE) return STATE;
      int[] l = ledger[house][kind];
      int lost = book[house][kind] - l[0] - l[1] - l[2];
      return lost > sure ? lost - sure : 0;
    }
    int worst() {
      int best = 0, at = NONE;
      for (int h = 0; h < 5; h++) {
        int sum = 0;
        for (int k = 0; k < kinds.size(); k++) { int m = missing(h, k, false); if (m > 0) sum += m; }
        if (sum > best) { best = sum; at = h; }
      }
      return at;
    }

    int farness(int a, int b, int n) {
      if (!in(a, 0, 4) || !in(b, 0, 4)) return UNKNOWN;
      if (!in(n, 0, 99)) return OUTSIDE;
      if (a == b) return STATE;
      int was = far[a][b];
      far[a][b] = n;
      far[b][a] = n;
      return was;
    }
    int event(int day, int house, int kind, int need) {
      if (!hk(house, kind)) return UNKNOWN;
      if (!in(day, 0, 999) || !in(need, 1, 500)) return OUTSIDE;
      if (events.size() == 12) return FULL;
      events.add(new int[] {day, house, kind, need, 1});
      return events.size() - 1;
    }
    int off(int e) {
      if (!in(e, 0, events.size() - 1)) return UNKNOWN;
      if (events.get(e)[4] == 0) return STATE;
      events.get(e)[4] = 0;
      return 1;
    }
    TreeMap<Integer, int[]> needs(int kind, int without) {
      TreeMap<Integer, int[]> days = new TreeMap<>();
      for (int e = 0; e < events.size(); e++) {
        int[] v = events.get(e);
        if (v[4] == 1 && v[2] == kind && e != without) days.computeIfAbsent(v[0], d -> new int[5])[v[1]] += v[3];
      }
      return days;
    }
    int all(int kind) { int s = 0; for (int h = 0; h < 5; h++) s += book[h][kind]; return s; }
    int inNeed(int kind) {
      if (!hk(0, kind)) return UNKNOWN;
      for (Map.Entry<Integer, int[]> d : needs(kind, -1).entrySet())
        if (Arrays.stream(d.getValue()).sum() > all(kind)) return d.getKey();
      return NONE;
    }
    int carried(int kind) { return hk(0, kind) ? least(kind, -1) : UNKNOWN; }
    int costs(int e) {
      if (!in(e, 0, events.size() - 1)) return UNKNOWN;
      if (events.get(e)[4] == 0) return STATE;
      int with = least(events.get(e)[2], -1);
      return with == NONE ? NONE : with - least(events.get(e)[2], e);
    }
    int least(int kind, int without) {
      List<int[]> days = new ArrayList<>(needs(kind, without).values());
      return all(kind) <= 3 ? leastByPieces(kind, days) : leastByFlow(kind, days);
    }
    /** Every place of every piece on every DAY. */
    int leastByPieces(int kind, List<int[]> days) {
      int n = all(kind), states = 1, start = 0;
      for (int i = 0; i < n; i++) states *= 5;
      for (int h = 0; h < 5; h++) for (int i = 0; i < book[h][kind]; i++) start = start * 5 + h;
      int[] best = new int[states];
      Arrays.fill(best, Integer.MAX_VALUE);
      best[start] = 0;
      for (int[] need : days) {
        int[] next = new int[states];
        Arrays.fill(next, Integer.MAX_VALUE);
        for (int s = 0; s < states; s++) {
          int[] there = new int[5];
          for (int i = 0, x = s; i < n; i++, x /= 5) there[x % 5]++;
          boolean serves = true;
          for (int h = 0; h < 5; h++) serves &= there[h] >= need[h];
          for (int f = 0; serves && f < states; f++) {
            if (best[f] == Integer.MAX_VALUE) continue;
            int cost = best[f];
            for (int i = 0, x = s, y = f; i < n; i++, x /= 5, y /= 5) cost += far[y % 5][x % 5];
            next[s] = Math.min(next[s], cost);
          }
        }
        best = next;
      }
      int least = Integer.MAX_VALUE;
      for (int b : best) least = Math.min(least, b);
      return least == Integer.MAX_VALUE ? NONE : least;
    }
    /** DAY by DAY through every HOUSE, a great prize on each piece that is needed there. */
    int leastByFlow(int kind, List<int[]> days) {
      final long prize = 1000000;
      int nodes = 2 + 5 + days.size() * 10;
      List<long[]> arcs = new ArrayList<>(); // from, to, room, cost; its reverse behind it
      long wanted = 0;
      for (int h = 0; h < 5; h++) arc(arcs, 0, 2 + h, book[h][kind], 0);
      for (int d = 0; d < days.size(); d++) {
        int before = d == 0 ? 2 : 2 + 5 + (d - 1) * 10 + 5, come = 2 + 5 + d * 10;
        for (int a = 0; a < 5; a++) for (int b = 0; b < 5; b++) arc(arcs, before + a, come + b, 99999, far[a][b]);
        for (int h = 0; h < 5; h++) {
          arc(arcs, come + h, come + 5 + h, days.get(d)[h], -prize);
          arc(arcs, come + h, come + 5 + h, 99999, 0);
          wanted += days.get(d)[h];
        }
      }
      int last = days.isEmpty() ? 2 : 2 + 5 + (days.size() - 1) * 10 + 5;
      for (int h = 0; h < 5; h++) arc(arcs, last + h, 1, 99999, 0);
      long total = 0;
      while (true) {
        long[] dist = new long[nodes];
        int[] by = new int[nodes];
        Arrays.fill(dist, Long.MAX_VALUE / 4);
        dist[0] = 0;
        for (boolean changed = true; changed;) {
          changed = false;
          for (int i = 0; i < arcs.size(); i++) {
            long[] a = arcs.get(i);
            if (a[2] > 0 && dist[(int) a[0]] < Long.MAX_VALUE / 8 && dist[(int) a[0]] + a[3] < dist[(int) a[1]]) {
              dist[(int) a[1]] = dist[(int) a[0]] + a[3];
              by[(int) a[1]] = i;
              changed = true;
            }
          }
        }
        if (dist[1] >= Long.MAX_VALUE / 8) break;
        long room = Long.MAX_VALUE;
        for (int v = 1; v != 0; v = (int) arcs.get(by[v])[0]) room = Math.min(room, arcs.get(by[v])[2]);
        for (int v = 1; v != 0;) {
          int i = by[v];
          arcs.get(i)[2] -= room;
          arcs.get(i ^ 1)[2] += room;
          v = (int) arcs.get(i)[0];
        }
        total += room * dist[1];
      }
      long cost = total + wanted * prize;
      return cost >= prize ? NONE : (int) cost;
    }
    static void arc(List<long[]> arcs, int from, int to, long room, long cost) {
      arcs.add(new long[] {from, to, room, cost});
      arcs.add(new long[] {to, from, 0, -cost});
    }

    int lot(int lot, int what, int v) {
      if (!in(lot, 0, 3)) return UNKNOWN;
      if (what == 0 && !in(v, 0, 200) || what == 1 && !in(v, 1, 200) || what == 2 && !in(v, 0, 99)) return OUTSIDE;
      if (what == 3 && !in(v, 0, 100) || !in(what, 0, 3)) return OUTSIDE;
      int was = lots[lot][what];
      lots[lot][what] = v;
      return was;
    }
    int crew(int n) {
      if (!in(n, 0, 4)) return OUTSIDE;
      int was = crew;
      crew = n;
      return was;
    }
    int[] plates() { return new int[] {lots[0][0], lots[1][0], lots[2][0], lots[3][0]}; }
    int[] worn(int[] plates, int set) {
      int[] p = plates.clone();
      for (int l = 0; l < 4; l++) {
        if ((set >> l & 1) == 1) p[l] = lots[l][1];
        p[l] = Math.max(0, p[l] - lots[l][2]);
      }
      return p;
    }
    int below(int[] plates) { int n = 0; for (int l = 0; l < 4; l++) if (plates[l] < lots[l][3]) n++; return n; }
    /** The best PLAN's sets behind its number of replatings; null where there is none. */
    List<Integer> best(int months, int[] plates, Map<String, List<Integer>> known) {
      if (months == 0) return List.of(0);
      String key = months + Arrays.toString(plates);
      if (known.containsKey(key)) return known.get(key);
      List<Integer> best = null;
      for (int set = 0; set < 16; set++) {
        if (Integer.bitCount(set) > crew) continue;
        int[] p = worn(plates, set);
        if (below(p) > 0) continue;
        List<Integer> rest = best(months - 1, p, known);
        if (rest == null) continue;
        int n = rest.get(0) + Integer.bitCount(set);
        if (best != null && best.get(0) <= n) continue;
        best = new ArrayList<>();
        best.add(n);
        best.add(set);
        best.addAll(rest.subList(1, rest.size()));
      }
      known.put(key, best);
      return best;
    }
    int plan(int months) {
      if (!in(months, 1, 8)) return OUTSIDE;
      List<Integer> b = best(months, plates(), new HashMap<>());
      return b == null ? NONE : b.get(0);
    }
    int planned(int months, int i) {
      if (!in(months, 1, 8) || !in(i, 0, months - 1)) return OUTSIDE;
      List<Integer> b = best(months, plates(), new HashMap<>());
      return b == null ? NONE : b.get(1 + i);
    }
    int month(int set) {
      if (!in(set, 0, 15)) return OUTSIDE;
      if (Integer.bitCount(set) > crew) return STATE;
      int[] p = worn(plates(), set);
      for (int l = 0; l < 4; l++) lots[l][0] = p[l];
      return below(p);
    }
    int match(int a, int b, int apart) {
      if (!in(a, 0, 3) || !in(b, 0, 3)) return UNKNOWN;
      if (!in(apart, 0, 200)) return OUTSIDE;
      return Math.abs(lots[a][0] - lots[b][0]) <= apart ? 1 : 0;
    }

    int mark(boolean find, int first, int second, int third, int weight) {
      for (int s : new int[] {first, second, third}) if (s != NONE && !in(s, 0, 9)) return OUTSIDE;
      if (!in(weight, 1, 2000)) return OUTSIDE;
      List<int[]> of = find ? finds : pieces;
      if (of.size() == 8) return FULL;
      of.add(new int[] {first, second, third, weight});
      return of.size() - 1;
    }
    int clear() {
      int n = pieces.size() + finds.size();
      pieces.clear();
      finds.clear();
      return n;
    }
    int price(int piece, int find) {
      int[] p = pieces.get(piece), f = finds.get(find);
      int sum = Math.abs(p[3] - f[3]);
      if (sum > 20) return NONE;
      for (int s = 0; s < 3; s++) {
        if (p[s] == NONE || f[s] == NONE) sum += 10;
        else if (p[s] != f[s]) return NONE;
      }
      return sum;
    }
    int cost(int piece, int find) {
      if (!in(piece, 0, pieces.size() - 1) || !in(find, 0, finds.size() - 1)) return UNKNOWN;
      return price(piece, find);
    }
    int bestPairs, bestCost;
    int[] bestJoin;
    List<TreeSet<Integer>> bestFinds;
    /** Every way to pair, in the order of THE JOIN's ties, so that the first of the best is THE JOIN. */
    void tryJoins() {
      bestPairs = -1;
      walk(0, new int[pieces.size()], 0, 0, 0);
    }
    void walk(int piece, int[] has, int used, int pairs, int cost) {
      if (pairs + pieces.size() - piece < bestPairs) return;
      if (piece < pieces.size()) {
        for (int f = 0; f < finds.size(); f++) {
          if ((used >> f & 1) == 1 || price(piece, f) == NONE) continue;
          has[piece] = f;
          walk(piece + 1, has, used | 1 << f, pairs + 1, cost + price(piece, f));
        }
        has[piece] = NONE;
        walk(piece + 1, has, used, pairs, cost);
        return;
      }
      if (pairs > bestPairs || pairs == bestPairs && cost < bestCost) {
        bestPairs = pairs;
        bestCost = cost;
        bestJoin = has.clone();
        bestFinds = new ArrayList<>();
        for (int p = 0; p < pieces.size(); p++) bestFinds.add(new TreeSet<>());
      }
      if (pairs == bestPairs && cost == bestCost) for (int p = 0; p < pieces.size(); p++) bestFinds.get(p).add(has[p]);
    }
    int join(boolean cost) {
      tryJoins();
      return cost ? bestCost : bestPairs;
    }
    int joined(int piece) {
      if (!in(piece, 0, pieces.size() - 1)) return UNKNOWN;
      tryJoins();
      return bestJoin[piece];
    }
    int certain(int piece) {
      if (!in(piece, 0, pieces.size() - 1)) return UNKNOWN;
      tryJoins();
      return bestFinds.get(piece).size() == 1 ? 1 : 0;
    }

    static BigInteger choose(int n, int k) {
      if (k < 0 || k > n) return BigInteger.ZERO;
      BigInteger c = BigInteger.ONE;
      for (int i = 0; i < k; i++) c = c.multiply(BigInteger.valueOf(n - i)).divide(BigInteger.valueOf(i + 1));
      return c;
    }
    int doubted(int n, int m, int x, int t) {
      if (!in(n, 1, 60) || !in(m, 1, n) || !in(x, 0, m) || !in(t, x, n - m + x)) return OUTSIDE;
      BigInteger fewer = BigInteger.ZERO, more = BigInteger.ZERO, twenty = BigInteger.valueOf(20);
      for (int j = 0; j <= m; j++) {
        BigInteger ways = choose(t, j).multiply(choose(n - t, m - j));
        if (j <= x) fewer = fewer.add(ways);
        if (j >= x) more = more.add(ways);
      }
      BigInteger all = choose(n, m);
      return fewer.multiply(twenty).compareTo(all) < 0 || more.multiply(twenty).compareTo(all) < 0 ? 1 : 0;
    }
    int bound(int n, int m, int x, boolean greatest) {
      if (!in(n, 1, 60) || !in(m, 1, n) || !in(x, 0, m)) return OUTSIDE;
      int found = NONE;
      for (int t = x; t <= n - m + x; t++) {
        if (doubted(n, m, x, t) == 1) continue;
        if (!greatest) return t;
        found = t;
      }
      return found;
    }
    int broke(int night, int shift, int n) {
      if (!in(night, 0, 999) || !in(shift, 0, 2) || !in(n, 1, 99)) return OUTSIDE;
      if (breakages.size() == 60) return FULL;
      breakages.add(new int[] {night, shift, n});
      return breakages.size();
    }
    int told(int shift, int from, int to) {
      if (!in(shift, 0, 2) || !in(from, 0, 999) || !in(to, 0, 999) || to < from) return OUTSIDE;
      TreeSet<Integer> nights = new TreeSet<>();
      int sum = 0;
      for (int[] b : breakages) if (b[1] == shift && in(b[0], from, to)) { nights.add(b[0]); sum += b[2]; }
      return nights.size() >= 3 ? sum : NONE;
    }
    int count(int what) {
      int n = 0;
      switch (what) {
        case 0: return kinds.size();
        case 1: for (int[] w : weighings) n += w[4]; return n;
        case 2: for (int[] e : events) n += e[4]; return n;
        case 3: return pieces.size();
        case 4: return finds.size();
        case 5: return breakages.size();
        case 6: for (int k = 0; k < kinds.size(); k++) n += all(k); return n;
        default: return OUTSIDE;
      }
    }
  }

  /** One drawn run: both objects get the same calls. */
  static final class Run {
    final int seed;
    final Random random;
    final HotelSilver real = new HotelSilver();
    final Plain plain = new Plain();
    Run(int seed) {
      this.seed = seed;
      random = new Random(seed);
    }

    int pick(int... of) { return of[random.nextInt(of.length)]; }
    int from(int a, int b) { return (int) (a + Math.floorMod(random.nextLong(), Math.max(1L, (long) b - a + 1))); }
    /** Mostly from a to b, at times an edge, just outside, or far off. */
    int near(int a, int b) {
      int r = random.nextInt(40);
      if (r == 0) return pick(a - 1, b + 1);
      if (r == 1) return pick(Integer.MIN_VALUE, Integer.MAX_VALUE, -9, -1);
      return r < 6 ? pick(a, b) : from(a, b);
    }
    boolean flip() { return random.nextBoolean(); }

    void due(String call, int got, int want, int... args) {
      if (got == want) return;
      wrong++;
      System.out.println("seed " + seed + ": " + call + Arrays.toString(args) + " answered " + got + ", due is " + want);
    }

    int house() { return near(0, 4); }
    int kind() { return near(0, Math.max(0, plain.kinds.size() - 1)); }

    void counts() {
      int h = house(), k = kind(), o = kind();
      boolean b = flip();
      int f = b ? 1 : 0;
      switch (random.nextInt(12)) {
        case 0: { int l = near(1, pick(50, 2000)), g = near(l, Math.min(2000, l + pick(0, 5, 300, 2000)));
          due("kind", real.kind(l, g), plain.kind(l, g), l, g); break; }
        case 1: { int n = near(0, pick(3, 40, 999)); due("book", real.book(h, k, n), plain.book(h, k, n), h, k, n); break; }
        case 2: case 3: { int n = from(0, 999), w = near(0, pick(200, 20000, 2000000)), g = near(0, 500);
          if (flip() && plain.hk(h, k)) w = Math.min(2000000, n * plain.kinds.get(k)[from(0, 1)] + from(0, 50));
          if (flip() && plain.hk(h, k)) w = Math.min(2000000, 60 * plain.kinds.get(k)[from(0, 1)]);
          due("weigh", real.weigh(h, k, w, g), plain.weigh(h, k, w, g), h, k, w, g); break; }
        case 4: if (from(0, 3) == 0) { int w = near(0, Math.max(0, plain.weighings.size() - 1)); due("drop", real.drop(w), plain.drop(w), w); } break;
        case 5: due("sure", real.sure(h, k, b), plain.sure(h, k, b), h, k, f); break;
        case 6: due("quarrel", real.quarrel(h, k), plain.quarrel(h, k), h, k); break;
        case 7: { int w = near(0, pick(1000, 40000, 800000, 2000000)), g = near(0, pick(5, 500));
          due("tray", real.tray(k, o, w, g), plain.tray(k, o, w, g), k, o, w, g); break; }
        case 8: { int w = near(0, pick(1000, 40000, 800000)), g = near(0, pick(5, 500)), i = near(0, pick(3, 100, 20000));
          due("trayPair", real.trayPair(k, o, w, g, i), plain.trayPair(k, o, w, g, i), k, o, w, g, i); break; }
        case 9: { int w = near(0, 2), n = near(0, pick(5, 999)); due("ledger", real.ledger(h, k, w, n), plain.ledger(h, k, w, n), h, k, w, n); break; }
        case 10: due("missing", real.missing(h, k, b), plain.missing(h, k, b), h, k, f); break;
        default: due("worst", real.worst(), plain.worst());
      }
    }
    void events() {
      int k = kind();
      switch (random.nextInt(9)) {
        case 0: { int l = near(1, 2000), g = near(1, 2000); due("kind", real.kind(l, g), plain.kind(l, g), l, g); break; }
        case 1: { int h = house(), n = near(0, pick(1, 2, 20, 999)); due("book", real.book(h, k, n), plain.book(h, k, n), h, k, n); break; }
        case 2: { int a = house(), b = house(), n = near(0, pick(3, 20, 99)); due("farness", real.farness(a, b, n), plain.farness(a, b, n), a, b, n); break; }
        case 3: case 4: { int d = near(0, pick(2, 8, 999)), h = house(), n = near(1, pick(1, 2, 20, 500));
          due("event", real.event(d, h, k, n), plain.event(d, h, k, n), d, h, k, n); break; }
        case 5: if (from(0, 3) == 0) { int e = near(0, Math.max(0, plain.events.size() - 1)); due("off", real.off(e), plain.off(e), e); } break;
        case 6: due("carried", real.carried(k), plain.carried(k), k); break;
        case 7: due("inNeed", real.inNeed(k), plain.inNeed(k), k); break;
        default: { int e = near(0, Math.max(0, plain.events.size() - 1)); due("costs", real.costs(e), plain.costs(e), e); }
      }
    }
    void plates() {
      int m = near(1, 8);
      switch (random.nextInt(9)) {
        case 0: case 1: case 2: { int l = near(0, 3), w = near(0, 3), v = near(w == 1 ? 1 : 0, w == 2 ? pick(20, 60, 99) : w == 3 ? pick(30, 100) : 200);
          due("lot", real.lot(l, w, v), plain.lot(l, w, v), l, w, v); break; }
        case 3: { int n = near(0, 4); due("crew", real.crew(n), plain.crew(n), n); break; }
        case 4: due("plan", real.plan(m), plain.plan(m), m); break;
        case 5: case 6: { int i = near(0, Math.max(0, Math.min(8, m) - 1)); due("planned", real.planned(m, i), plain.planned(m, i), m, i); break; }
        case 7: { int s = near(0, 15); due("month", real.month(s), plain.month(s), s); break; }
        default: { int a = near(0, 3), b = near(0, 3), p = near(0, pick(30, 200)); due("match", real.match(a, b, p), plain.match(a, b, p), a, b, p); }
      }
    }
    int sign() { int r = random.nextInt(30); return r == 0 ? pick(-1, 10, -10, -8, Integer.MIN_VALUE) : r < 10 ? -9 : r < 20 ? 1 : from(0, 9); }
    void marks() {
      int p = near(0, Math.max(0, plain.pieces.size() - 1)), f = near(0, Math.max(0, plain.finds.size() - 1));
      boolean b = flip();
      switch (random.nextInt(8)) {
        case 0: case 1: case 2: { int s = sign(), t = sign(), u = sign(), w = near(1, pick(3, 12, 40, 2000));
          due("mark", real.mark(b, s, t, u, w), plain.mark(b, s, t, u, w), b ? 1 : 0, s, t, u, w); break; }
        case 3: if (from(0, 9) == 0) due("clear", real.clear(), plain.clear()); break;
        case 4: due("cost", real.cost(p, f), plain.cost(p, f), p, f); break;
        case 5: due("join", real.join(b), plain.join(b), b ? 1 : 0); break;
        case 6: due("joined", real.joined(p), plain.joined(p), p); break;
        default: due("certain", real.certain(p), plain.certain(p), p);
      }
    }
    void bags() {
      int n = near(1, 60), m = near(1, Math.max(1, Math.min(60, n))), x = near(0, Math.max(0, Math.min(60, m)));
      int last = (int) Math.max(x, Math.min(1000L, (long) n - m + x));
      boolean b = flip();
      switch (random.nextInt(6)) {
        case 0: { int t = near(x, last); due("doubted", real.doubted(n, m, x, t), plain.doubted(n, m, x, t), n, m, x, t); break; }
        case 1: due("bound", real.bound(n, m, x, b), plain.bound(n, m, x, b), n, m, x, b ? 1 : 0); break;
        case 2: case 3: { int d = near(0, pick(3, 20, 999)), s = near(0, 2), k = near(1, 99); due("broke", real.broke(d, s, k), plain.broke(d, s, k), d, s, k); break; }
        default: { int s = near(0, 2), u = near(0, pick(3, 20, 999)), v = near(Math.max(0, Math.min(999, u)), 999);
          due("told", real.told(s, u, v), plain.told(s, u, v), s, u, v); }
      }
    }
    /** All EVENTS of one KIND, which is where many ways cross. */
    void journeys() {
      real.kind(1, 1);
      plain.kind(1, 1);
      int most = pick(1, 3, 20, 999), farthest = pick(1, 5, 99), days = from(0, 11), needs = pick(1, 2, most / 2 + 1, 500);
      for (int a = 0; a < 5; a++) {
        int n = from(0, most);
        due("book", real.book(a, 0, n), plain.book(a, 0, n), a, 0, n);
        for (int b = 0; b < a; b++) {
          int f = from(0, farthest);
          due("farness", real.farness(a, b, f), plain.farness(a, b, f), a, b, f);
        }
      }
      for (int e = 0; e < 12; e++) {
        int d = from(0, days), h = from(0, 4), n = Math.min(500, from(1, needs));
        due("event", real.event(d, h, 0, n), plain.event(d, h, 0, n), d, h, 0, n);
        due("carried", real.carried(0), plain.carried(0), e);
        due("inNeed", real.inNeed(0), plain.inNeed(0), e);
        if (plain.inNeed(0) != -9) due("off", real.off(e), plain.off(e), e);
      }
      for (int e = 0; e < 12; e++) due("costs", real.costs(e), plain.costs(e), e);
    }
    void plans() {
      for (int l = 0; l < 4; l++) {
        int[] v = {from(0, 150), from(60, 150), from(pick(0, 8), 60), from(0, 40)};
        for (int w = 0; w < 4; w++) due("lot", real.lot(l, w, v[w]), plain.lot(l, w, v[w]), l, w, v[w]);
      }
      int n = from(0, 4);
      due("crew", real.crew(n), plain.crew(n), n);
      for (int m = 1; m <= 8; m++) {
        due("plan", real.plan(m), plain.plan(m), m);
        for (int i = 0; i < m; i++) due("planned", real.planned(m, i), plain.planned(m, i), m, i);
      }
    }
    void all() {
      for (int what = -1; what <= 7; what++) due("count", real.count(what), plain.count(what), what);
    }
    void go(int part, int calls) {
      for (int i = 0; i < calls; i++) {
        switch (part == 5 ? random.nextInt(5) : part) {
          case 0: counts(); break;
          case 1: events(); break;
          case 2: plates(); break;
          case 3: marks(); break;
          default: bags();
        }
        if (i % 20 == 19) all();
      }
    }
  }

  public static void main(String[] args) {
    int rounds = args.length > 0 ? Integer.parseInt(args[0]) : 60;
    int first = args.length > 1 ? Integer.parseInt(args[1]) : 0;
    for (int seed = first; seed < first + rounds; seed++)
      for (int part = 0; part <= 5; part++) new Run(seed * 6 + part).go(part, 300);
    for (int seed = first; seed < first + rounds; seed++) {
      new Run(seed).journeys();
      new Run(seed).plans();
    }
    System.out.println(wrong == 0 ? "all answers are as due" : wrong + " answers are not as due");
    if (wrong != 0) System.exit(1);
  }
}
