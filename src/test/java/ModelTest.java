import java.util.Random;

/** Long runs of calls, held against SlowPhraseMoods. Each run is told by its seed, and stays within 512 calls. */
final class ModelTest {
  private static final int RUNS = 1000;
  private static final int CALLS_MOST = 512;
  /** More than any step calls. */
  private static final int STEP_CALLS = 100;
  private static final long WAYS_MOST = 300;
  private static final String[] STEMS = {"a", "b", "aa", "ab", "ba", "ka", "kab", "ob", "stemme", "aeiou", "rr"};
  private static final String[] ENDS = {"", "a", "o", "b", "s", "ab", "ba", "oo", "xyz"};
  private static final String[] FRAMES = {
    "n00", "p0", "n00v0", "v0n00", "f00n01", "n00f00", "n01v0n10v1", "f01n01v0", "p0n02", "v1n13p0", "n00n11n22", "n00n10v1v0",
    "f02f02n00", "n00v0p0v0", "n00v0v0v0v0v0", "p0p1", "p00 p1\nn00", "n00n00", "v0", "p9", "n0", "x", "n03 v0 ", "f10 n11 n01 v0"};

  private final Random random;
  private final PhraseMoods x = new PhraseMoods();
  private final SlowPhraseMoods y = new SlowPhraseMoods();
  private final int run;
  private String call = "";
  private int calls;
  private int wordsMost;

  private ModelTest(int run) {
    this.run = run;
    random = new Random(run);
    wordsMost = run % 8 == 0 ? 24 : 4 + random.nextInt(8);
  }

  public static void main(String[] args) {
    for (int run = 0; run < RUNS; run++) {
      new ModelTest(run).go();
    }
    Due.end();
  }

  private void go() {
    for (int i = 0; calls + STEP_CALLS <= CALLS_MOST; i++) {
      int before = calls;
      step(i);
      Due.due("run " + run + ": calls of a step", calls - before <= STEP_CALLS ? 1 : 0, 1);
    }
  }

  private void same(int got, int want) {
    calls++;
    Due.due("run " + run + ", " + call, got, want);
  }

  private int small(int low, int high) {
    if (random.nextInt(40) == 0) {
      int[] odd = {Integer.MIN_VALUE, Integer.MAX_VALUE, -1, -2, high + 1, high + 2, low - 1};
      return odd[random.nextInt(odd.length)];
    }
    return low + random.nextInt(high - low + 1);
  }

  private <T> T one(T[] of) {
    return of[random.nextInt(of.length)];
  }

  /** Feeds a text to both; what is refused stands as it may. */
  private void feed(String text) {
    for (int i = 0; i < text.length(); i += 5) {
      int[] b = new int[5];
      int n = Math.min(5, text.length() - i);
      for (int j = 0; j < n; j++) {
        b[j] = text.charAt(i + j);
      }
      call = "feed \"" + text + "\"";
      same(x.feed(n, b[0], b[1], b[2], b[3], b[4]), y.feed(n, b[0], b[1], b[2], b[3], b[4]));
    }
  }

  private void step(int i) {
    int pick = i < 30 ? random.nextInt(4) : random.nextInt(30);
    switch (pick) {
      case 0: case 4:
        addWord();
        break;
      case 1: case 5: {
        feed(random.nextInt(20) == 0 ? "a b!" : one(ENDS));
        int t = small(0, 1), r = small(0, 3), n = small(0, 1);
        call = "ending(" + t + ", " + r + ", " + n + ")";
        same(x.ending(t, r, n), y.ending(t, r, n));
        break;
      }
      case 2: case 6:
        feed(random.nextInt(4) == 0 ? randomFrame() : one(FRAMES));
        call = "frame()";
        same(x.frame(), y.frame());
        break;
      case 3: case 7: case 8: {
        int f = small(0, Math.max(y.frames() - 1, 0)), m = small(0, 3);
        call = "desk(" + f + ", " + m + ")";
        same(x.desk(f, m), y.desk(f, m));
        break;
      }
      case 9: case 10:
        chooseOrNumber();
        break;
      case 11:
        said();
        break;
      case 12: case 13: case 14:
        read();
        break;
      case 15:
        draw();
        break;
      case 16: case 17: case 18:
        trays();
        break;
      case 19: case 20: case 21: case 22:
        sheets();
        break;
      case 23:
        images();
        break;
      case 24: {
        int what = small(0, 4);
        call = "count(" + what + ")";
        same(x.count(what), y.count(what));
        break;
      }
      case 25:
        oddFeed();
        break;
      default:
        words();
    }
  }

  private void addWord() {
    if (y.count(0) >= wordsMost) {
      return;
    }
    feed(random.nextInt(20) == 0 ? "toolong" : one(STEMS));
    int k = small(0, 5), t = small(0, 1), g = small(0, 2);
    call = "word(" + k + ", " + t + ", " + g + ")";
    same(x.word(k, t, g), y.word(k, t, g));
  }

  private String randomFrame() {
    StringBuilder s = new StringBuilder();
    int size = random.nextInt(20);
    for (int i = 0; i < size; i++) {
      s.append("nnvfp0000112 3\n".charAt(random.nextInt(15)));
    }
    return s.toString();
  }

  private void oddFeed() {
    int n = small(1, 5), a = small(0, 255), b = small(0, 255), c = small(0, 255), d = small(0, 255), e = small(0, 255);
    call = "feed(" + n + ", " + a + ", " + b + ", " + c + ", " + d + ", " + e + ")";
    same(x.feed(n, a, b, c, d, e), y.feed(n, a, b, c, d, e));
  }

  private void chooseOrNumber() {
    int i = small(0, 5), w = small(0, Math.max(y.count(0) - 1, 0));
    call = "choose(" + i + ", " + w + ")";
    same(x.choose(i, w), y.choose(i, w));
    int g = small(0, 2), n = small(0, 1);
    call = "number(" + g + ", " + n + ")";
    same(x.number(g, n), y.number(g, n));
  }

  private void said() {
    for (int k = -2; k <= Math.min(y.said(-1), 70); k++) {
      call = "said(" + k + ")";
      same(x.said(k), y.said(k));
    }
    int tempo = small(1, 99);
    call = "spoken(" + tempo + ")";
    same(x.spoken(tempo), y.spoken(tempo));
  }

  private void read() {
    if (y.ways() > WAYS_MOST) {
      return;
    }
    String line = y.line();
    if (random.nextInt(3) == 0) {
      StringBuilder s = new StringBuilder();
      int words = 1 + random.nextInt(4);
      for (int i = 0; i < words; i++) {
        s.append(i == 0 ? "" : " ").append(one(STEMS)).append(one(ENDS));
      }
      line = s.toString();
    }
    feed(line.length() > 50 ? line.substring(0, 50) : line);
    call = "text()";
    same(x.text(), y.text());
    for (int what = -1; what <= 3; what++) {
      call = "readings(" + what + ")";
      same(x.readings(what), y.readings(what));
      call = "near(" + what + ")";
      same(x.near(what), y.near(what));
    }
  }

  private void draw() {
    if (y.ways() > WAYS_MOST) {
      return;
    }
    int seed = random.nextInt(3) == 0 ? small(0, 100) : random.nextInt();
    int what = small(0, 1), m = small(1, 8), part = small(0, 1);
    call = "drawn(" + seed + ", " + what + ")";
    same(x.drawn(seed, what), y.drawn(seed, what));
    call = "chance(" + seed + ", " + m + ", " + part + ")";
    same(x.chance(seed, m, part), y.chance(seed, m, part));
  }

  private void trays() {
    int t = small(0, 3), o = small(0, 3), k = small(0, 5), n = small(0, 20), i = small(0, 5), w = small(-1, Math.max(y.count(0) - 1, 0));
    if (random.nextInt(3) == 0) {
      call = "tray(" + t + ", " + k + ", " + n + ")";
      same(x.tray(t, k, n), y.tray(t, k, n));
    }
    call = "lays(" + o + ", " + i + ", " + w + ")";
    same(x.lays(o, i, w), y.lays(o, i, w));
    if (random.nextInt(4) == 0) {
      call = "like(" + t + ", " + o + ")";
      same(x.like(t, o), y.like(t, o));
    }
    for (int j = -1; j <= 20; j++) {
      call = "laid(" + t + ", " + j + ")";
      same(x.laid(t, j), y.laid(t, j));
    }
  }

  private void sheets() {
    int s = small(0, 3), o = small(0, 3), n = small(0, random.nextInt(4) == 0 ? 40 : 6), sort = small(-1, 1);
    if (random.nextInt(3) == 0) {
      call = "sheet(" + s + ", " + sort + ", " + n + ")";
      same(x.sheet(s, sort, n), y.sheet(s, sort, n));
    }
    String line = y.line();
    String[] forms = line.split(" ");
    for (int i = 0; i < forms.length; i++) {
      int v = random.nextInt(20) == 0 ? small(0, 9) : forms[i].length() + (random.nextInt(9) == 0 ? 1 << 16 : 0);
      call = "put(" + s + ", " + i + ", " + v + ")";
      same(x.put(s, i, v), y.put(s, i, v));
    }
    int i = small(0, 3), j = small(0, 3), m = small(0, 4);
    call = "copy(" + s + ", " + i + ", " + o + ", " + j + ", " + m + ")";
    same(x.copy(s, i, o, j, m), y.copy(s, i, o, j, m));
    for (int sheet = 0; sheet < 4; sheet++) {
      for (int what = -1; what <= 3; what++) {
        call = "tells(" + sheet + ", " + what + ")";
        same(x.tells(sheet, what), y.tells(sheet, what));
      }
    }
  }

  private void images() {
    if (random.nextInt(3) == 0) {
      call = "image()";
      same(x.image(), y.image());
    } else if (random.nextInt(3) == 0) {
      call = "back()";
      same(x.back(), y.back());
    }
  }

  private void words() {
    int w = small(0, Math.max(y.count(0) - 1, 0)), what = small(0, 3), k = small(0, 5), by = small(0, 95);
    call = "told(" + w + ", " + what + ")";
    same(x.told(w, what), y.told(w, what));
    call = "taken(" + w + ", " + k + ")";
    same(x.taken(w, k), y.taken(w, k));
    for (int j = -2; j <= 11; j++) {
      call = "form(" + w + ", " + by + ", " + j + ")";
      same(x.form(w, by, j), y.form(w, by, j));
    }
    int f = small(0, 4), i = small(0, 5), h = small(0, 4);
    call = "hole(" + f + ", " + i + ", " + h + ")";
    same(x.hole(f, i, h), y.hole(f, i, h));
  }
}
