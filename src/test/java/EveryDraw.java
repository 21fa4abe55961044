import java.math.BigInteger;

/** Promises 31 and 32 over every N, m, x and T that there is, with numbers that have no end. */
public final class EveryDraw {
  private static final int BAGS = 60, CALLS = 512, NONE = -9;
  private static final BigInteger TWENTY = BigInteger.valueOf(20);
  private static final BigInteger[][] CHOOSE = triangle();
  private static HotelSilver silver = new HotelSilver();
  private static int calls = 0, asked = 0, wrong = 0;

  private static BigInteger[][] triangle() {
    BigInteger[][] rows = new BigInteger[BAGS + 1][BAGS + 1];
    for (int n = 0; n <= BAGS; n++)
      for (int k = 0; k <= BAGS; k++)
        rows[n][k] = k == 0 ? BigInteger.ONE : n == 0 ? BigInteger.ZERO : rows[n - 1][k - 1].add(rows[n - 1][k]);
    return rows;
  }

  /** An object is used for 512 calls at most. */
  private static HotelSilver silver() {
    if (calls++ % CALLS == 0) silver = new HotelSilver();
    return silver;
  }

  private static void due(String call, int n, int m, int x, int last, int got, int want) {
    asked++;
    if (got == want) return;
    wrong++;
    System.out.println(call + "(" + n + ", " + m + ", " + x + ", " + last + ") answered " + got + ", due is " + want);
  }

  /** By x, whether T IS DOUBTED. */
  private static boolean[] doubts(int n, int m, int t) {
    BigInteger[] upTo = new BigInteger[m + 2];
    upTo[0] = BigInteger.ZERO;
    for (int j = 0; j <= m; j++) upTo[j + 1] = upTo[j].add(CHOOSE[t][j].multiply(CHOOSE[n - t][m - j]));
    BigInteger all = CHOOSE[n][m];
    boolean[] doubted = new boolean[m + 1];
    for (int x = 0; x <= m; x++) {
      BigInteger fewer = upTo[x + 1], more = upTo[m + 1].subtract(upTo[x]);
      doubted[x] = fewer.multiply(TWENTY).compareTo(all) < 0 || more.multiply(TWENTY).compareTo(all) < 0;
    }
    return doubted;
  }

  private static void draws(int n, int m) {
    boolean[][] doubted = new boolean[n + 1][];
    for (int t = 0; t <= n; t++) doubted[t] = doubts(n, m, t);
    for (int x = 0; x <= m; x++) {
      int least = NONE, greatest = NONE;
      for (int t = x; t <= n - m + x; t++) {
        due("doubted", n, m, x, t, silver().doubted(n, m, x, t), doubted[t][x] ? 1 : 0);
        if (doubted[t][x]) continue;
        least = least == NONE ? t : least;
        greatest = t;
      }
      due("bound", n, m, x, 0, silver().bound(n, m, x, false), least);
      due("bound", n, m, x, 1, silver().bound(n, m, x, true), greatest);
    }
  }

  public static void main(String[] args) {
    for (int n = 1; n <= BAGS; n++) for (int m = 1; m <= n; m++) draws(n, m);
    System.out.println(wrong == 0 ? "all " + asked + " answers are as due" : wrong + " answers are not as due");
    if (wrong != 0) System.exit(1);
  }
}
