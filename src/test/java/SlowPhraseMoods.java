import java.util.ArrayList;
import java.util.Arrays;
import java.util.List;

/**
 * The document told over in the plainest way, with texts for everything and every FILLED FRAME gone through one by
 * one: what ModelTest holds the class against. It asks for few WORDS, for it is slow.
 */
final class SlowPhraseMoods {
  private record Entry(String stem, int kind, int table, int gender) {
  }

  private record Hole(char which, int group, int casus, int word) {
  }

  /** All but SHEETS, TRAYS, THE TAPE. */
  private static final class State {
    List<Entry> words = new ArrayList<>();
    String[][][] endings = new String[4][4][2];
    List<List<Hole>> frames = new ArrayList<>();
    int deskFrame = -1;
    int deskMood;
    int[] deskNumbers = new int[3];
    Integer[] deskWords = new Integer[0];
    List<String> text = List.of();

    State copy() {
      State c = new State();
      c.words = new ArrayList<>(words);
      for (int t = 0; t < 4; t++) {
        for (int r = 0; r < 4; r++) {
          c.endings[t][r] = endings[t][r].clone();
        }
      }
      c.frames = new ArrayList<>(frames);
      c.deskFrame = deskFrame;
      c.deskMood = deskMood;
      c.deskNumbers = deskNumbers.clone();
      c.deskWords = deskWords.clone();
      c.text = text;
      return c;
    }
  }

  private State s = new State();
  private State image = null;
  private String tape = "";
  private final int[][] sheets = new int[4][];
  private final int[] sorts = new int[4];
  private final int[][] trays = new int[4][];
  private final int[] trayKinds = new int[4];

  SlowPhraseMoods() {
    for (String[][] table : s.endings) {
      for (String[] row : table) {
        Arrays.fill(row, "");
      }
    }
  }

  private static boolean in(int v, int low, int high) {
    return low <= v && v <= high;
  }

  private String takeTape() {
    String t = tape;
    tape = "";
    return t;
  }

  int feed(int n, int a, int b, int c, int d, int e) {
    int[] all = {a, b, c, d, e};
    if (!in(n, 1, 5) || Arrays.stream(all).anyMatch(v -> !in(v, 0, 255))) {
      return -2;
    }
    if (tape.length() + n > 50) {
      return -4;
    }
    for (int i = 0; i < n; i++) {
      tape += (char) all[i];
    }
    return tape.length();
  }

  int word(int kind, int table, int gender) {
    if (!in(kind, 0, 5) || !in(table, 0, 3) || !in(gender, 0, 2)) {
      return -2;
    }
    String t = takeTape();
    if (!t.matches("[a-z]{1,6}")) {
      return -3;
    }
    if (s.words.size() == 20) {
      return -4;
    }
    s.words.add(new Entry(t, kind, table, gender));
    return s.words.size() - 1;
  }

  int ending(int table, int row, int number) {
    if (!in(table, 0, 3) || !in(row, 0, 3) || !in(number, 0, 1)) {
      return -2;
    }
    String t = takeTape();
    if (!t.matches("[a-z]{0,3}")) {
      return -3;
    }
    int before = s.endings[table][row][number].length();
    s.endings[table][row][number] = t;
    return before;
  }

  int frame() {
    String t = takeTape();
    List<Hole> holes = new ArrayList<>();
    int fault = parse(t, 0, holes);
    if (fault >= 0) {
      return -100 - fault;
    }
    if (s.frames.size() == 5) {
      return -4;
    }
    s.frames.add(holes);
    return s.frames.size() - 1;
  }

  private static char at(String t, int i) {
    return i < t.length() ? t.charAt(i) : 0xffff;
  }

  /** The FAULT of what stands from i on, or -1. */
  private int parse(String t, int i, List<Hole> holes) {
    char c = at(t, i);
    if (c == 0xffff) {
      boolean bare = holes.stream().anyMatch(h -> h.group >= 0 && holes.stream().noneMatch(o -> o.which == 'n' && o.group == h.group));
      return holes.isEmpty() || bare ? t.length() : -1;
    }
    if (c == ' ' || c == '\n') {
      return parse(t, i + 1, holes);
    }
    if ("nvfp".indexOf(c) < 0 || holes.size() == 6) {
      return i;
    }
    if (c == 'p') {
      if (!Character.toString(at(t, i + 1)).matches("[0-9]")) {
        return i + 1;
      }
      int size = Character.toString(at(t, i + 2)).matches("[0-9]") ? 2 : 1;
      int word = Integer.parseInt(t.substring(i + 1, i + 1 + size));
      if (word >= s.words.size() || s.words.get(word).kind != 0) {
        return i + 1;
      }
      holes.add(new Hole('p', -1, -1, word));
      return parse(t, i + 1 + size, holes);
    }
    if (!in(at(t, i + 1), '0', '2')) {
      return i + 1;
    }
    int group = at(t, i + 1) - '0';
    if (c == 'n' && holes.stream().anyMatch(h -> h.which == 'n' && h.group == group)) {
      return i + 1;
    }
    if (c == 'v') {
      holes.add(new Hole('v', group, -1, -1));
      return parse(t, i + 2, holes);
    }
    if (!in(at(t, i + 2), '0', '3')) {
      return i + 2;
    }
    holes.add(new Hole(c, group, at(t, i + 2) - '0', -1));
    return parse(t, i + 3, holes);
  }

  private boolean isWord(int w) {
    return in(w, 0, s.words.size() - 1);
  }

  int told(int word, int what) {
    if (!isWord(word) || !in(what, 0, 3)) {
      return -2;
    }
    Entry e = s.words.get(word);
    return new int[] {e.kind, e.table, e.gender, e.stem.length()}[what];
  }

  private static boolean under(int kind, int k) {
    return k == kind || k == 0 || k == 1 && (kind == 3 || kind == 4) || k == 2 && kind == 5;
  }

  private static String joined(String a, String b) {
    boolean goes = a.matches(".*[aeiou]") && b.matches("[aeiou].*");
    return (goes ? a.substring(0, a.length() - 1) : a) + b;
  }

  private String formOf(Entry e, int casus, int number, int gender, int mood) {
    String[][] t = s.endings[e.table];
    switch (e.kind) {
      case 0:
        return e.stem;
      case 1:
        return joined(e.stem, t[casus][number]);
      case 2:
        return joined(e.stem, t[mood][number]);
      case 3:
        return joined(e.stem, t[casus][0]);
      case 4:
        return joined(joined(e.stem, t[casus][number]), "oae".substring(gender, gender + 1));
      default:
        String verb = joined(e.stem, t[mood][number]);
        return mood == 0 ? verb : verb + verb.charAt(verb.length() - 1);
    }
  }

  int taken(int word, int k) {
    if (!isWord(word) || !in(k, 0, 5)) {
      return -2;
    }
    Entry e = s.words.get(word);
    return under(e.kind, k) ? formOf(e, 1, 1, e.gender, 1).length() : -13;
  }

  private static int sizeOrByte(String t, int k) {
    return k == -1 ? t.length() : in(k, 0, t.length() - 1) ? t.charAt(k) : -12;
  }

  int form(int word, int by, int k) {
    if (!isWord(word) || !in(by, 0, 95)) {
      return -2;
    }
    return sizeOrByte(formOf(s.words.get(word), by & 3, by >> 2 & 1, (by >> 3) % 3, by / 24), k);
  }

  private List<Integer> wordsFor(Hole h) {
    List<Integer> can = new ArrayList<>();
    for (int w = 0; w < s.words.size(); w++) {
      int kind = s.words.get(w).kind;
      boolean fits = h.which == 'p' ? w == h.word
        : (h.which == 'n' ? "13" : h.which == 'v' ? "25" : "4").contains("" + kind);
      if (fits) {
        can.add(w);
      }
    }
    return can;
  }

  int hole(int frame, int i, int what) {
    if (!in(frame, 0, s.frames.size() - 1) || !in(what, 0, 4)) {
      return -2;
    }
    List<Hole> f = s.frames.get(frame);
    if (!in(i, 0, f.size() - 1)) {
      return -12;
    }
    Hole h = f.get(i);
    return new int[] {"nvfp".indexOf(h.which), h.group, h.casus, h.word, wordsFor(h).size()}[what];
  }

  int desk(int frame, int mood) {
    if (!in(frame, 0, s.frames.size() - 1) || !in(mood, 0, 3)) {
      return -2;
    }
    s.deskFrame = frame;
    s.deskMood = mood;
    s.deskNumbers = new int[3];
    s.deskWords = s.frames.get(frame).stream().map(this::wordsFor).map(l -> l.isEmpty() ? -1 : l.get(0)).toArray(Integer[]::new);
    return s.deskWords.length;
  }

  int choose(int i, int word) {
    if (!isWord(word)) {
      return -2;
    }
    if (s.deskFrame < 0) {
      return -3;
    }
    if (!in(i, 0, s.deskWords.length - 1)) {
      return -12;
    }
    if (!wordsFor(s.frames.get(s.deskFrame).get(i)).contains(word)) {
      return -13;
    }
    int before = s.deskWords[i];
    s.deskWords[i] = word;
    return before;
  }

  int number(int group, int n) {
    if (!in(group, 0, 2) || !in(n, 0, 1)) {
      return -2;
    }
    if (s.deskFrame < 0) {
      return -3;
    }
    int before = s.deskNumbers[group];
    s.deskNumbers[group] = n;
    return before;
  }

  /** What a FILLED FRAME SAYS, word by word; null: it isn't all FILLED. */
  private List<String> says(List<Hole> frame, int mood, int[] numbers, Integer[] words) {
    List<String> forms = new ArrayList<>();
    if (Arrays.asList(words).contains(-1)) {
      return null;
    }
    for (int i = 0; i < words.length; i++) {
      Hole h = frame.get(i);
      Entry noun = null;
      for (int j = 0; j < words.length; j++) {
        if (frame.get(j).which == 'n' && frame.get(j).group == h.group) {
          noun = s.words.get(words[j]);
        }
      }
      int number = noun == null || noun.kind == 3 ? 0 : numbers[h.group];
      forms.add(formOf(s.words.get(words[i]), Math.max(h.casus, 0), number, noun == null ? 0 : noun.gender, mood));
    }
    return forms;
  }

  private List<String> deskSays(int mood, int[] numbers) {
    return s.deskFrame < 0 ? null : says(s.frames.get(s.deskFrame), mood, numbers, s.deskWords);
  }

  String line() {
    List<String> forms = deskSays(s.deskMood, s.deskNumbers);
    return forms == null ? "" : String.join(" ", forms);
  }

  int said(int k) {
    return sizeOrByte(line(), k);
  }

  int spoken(int tempo) {
    if (!in(tempo, 1, 99)) {
      return -2;
    }
    float t = 0;
    char ahead = 0;
    for (char c : line().toCharArray()) {
      float x = c == ' ' ? 9 : "aeiou".indexOf(c) >= 0 ? 7 : 4;
      if (c == ahead) {
        x *= 0.75f;
      }
      ahead = c;
      t += x / tempo;
    }
    return Float.floatToIntBits(t);
  }

  int text() {
    String t = takeTape();
    if (!t.matches("[a-z]+( [a-z]+)*")) {
      return -3;
    }
    s.text = List.of(t.split(" "));
    return s.text.size();
  }

  private interface Visit {
    void met(int frame, int mood, List<String> forms);
  }

  /** Goes through all FILLED FRAMES that are unlike: a NUMBER of a GROUP of a NAME, or of none of it, is 0 alone. */
  private void each(int size, Visit visit) {
    for (int f = 0; f < s.frames.size(); f++) {
      if (s.frames.get(f).size() == size) {
        fill(f, new Integer[size], 0, visit);
      }
    }
  }

  private void fill(int f, Integer[] words, int i, Visit visit) {
    List<Hole> frame = s.frames.get(f);
    if (i < words.length) {
      for (int w : wordsFor(frame.get(i))) {
        words[i] = w;
        fill(f, words, i + 1, visit);
      }
      return;
    }
    boolean[] both = new boolean[3];
    for (int j = 0; j < words.length; j++) {
      if (frame.get(j).which == 'n') {
        both[frame.get(j).group] = s.words.get(words[j]).kind != 3;
      }
    }
    for (int mood = 0; mood < 4; mood++) {
      for (int a = 0; a <= (both[0] ? 1 : 0); a++) {
        for (int b = 0; b <= (both[1] ? 1 : 0); b++) {
          for (int c = 0; c <= (both[2] ? 1 : 0); c++) {
            visit.met(f, mood, says(frame, mood, new int[] {a, b, c}, words));
          }
        }
      }
    }
  }

  /** How many, FRAME, MOOD of the first. */
  private int[] readingsOf(List<String> text) {
    int[] found = {0, -1, -1};
    each(text.size(), (f, mood, forms) -> {
      if (forms.equals(text)) {
        if (found[0] == 0 || f == found[1] && mood < found[2]) {
          found[1] = f;
          found[2] = mood;
        }
        found[0]++;
      }
    });
    return found;
  }

  int readings(int what) {
    return in(what, 0, 2) ? readingsOf(s.text)[what] : -2;
  }

  private static int apart(String a, String b) {
    int[][] d = new int[a.length() + 1][b.length() + 1];
    for (int i = 0; i <= a.length(); i++) {
      for (int j = 0; j <= b.length(); j++) {
        if (i == 0 || j == 0) {
          d[i][j] = i + j;
        } else {
          int changed = d[i - 1][j - 1] + (a.charAt(i - 1) == b.charAt(j - 1) ? 0 : 1);
          d[i][j] = Math.min(changed, 1 + Math.min(d[i - 1][j], d[i][j - 1]));
        }
      }
    }
    return d[a.length()][b.length()];
  }

  int near(int what) {
    if (!in(what, 0, 1)) {
      return -2;
    }
    int[] found = {-1, -1};
    each(s.text.size(), (f, mood, forms) -> {
      int far = 0;
      for (int i = 0; i < forms.size(); i++) {
        far += apart(forms.get(i), s.text.get(i));
      }
      if (found[0] < 0 || far < found[0]) {
        found[0] = far;
        found[1] = f;
      }
    });
    return found[what];
  }

  private int z;

  private int next(int many) {
    z = z * 1103515245 + 12345;
    return (z >>> 9) % many;
  }

  /** Null: a HOLE has no WORD. */
  private List<String> draw(int seed) {
    z = seed;
    List<Hole> f = s.frames.get(next(s.frames.size()));
    int mood = next(4);
    int[] numbers = {next(2), next(2), next(2)};
    Integer[] words = new Integer[f.size()];
    for (int i = 0; i < words.length; i++) {
      List<Integer> can = wordsFor(f.get(i));
      if (can.isEmpty()) {
        return null;
      }
      words[i] = f.get(i).which == 'p' ? f.get(i).word : can.get(next(can.size()));
    }
    return says(f, mood, numbers, words);
  }

  int drawn(int seed, int what) {
    if (!in(what, 0, 1)) {
      return -2;
    }
    if (s.frames.isEmpty()) {
      return -3;
    }
    List<String> forms = draw(seed);
    return forms == null ? 0 : what == 0 ? readingsOf(forms)[0] : String.join(" ", forms).length();
  }

  int chance(int seed, int m, int part) {
    if (!in(m, 1, 8) || !in(part, 0, 1)) {
      return -2;
    }
    if (s.frames.isEmpty()) {
      return -3;
    }
    int sure = 0;
    for (int i = 0; i < m; i++) {
      sure += drawn(seed + i, 0) == 1 ? 1 : 0;
    }
    for (int d = m; ; d--) {
      if (sure % d == 0 && m % d == 0) {
        return (part == 0 ? sure : m) / d;
      }
    }
  }

  int tray(int tray, int kind, int n) {
    if (!in(tray, 0, 3) || !in(kind, 0, 5) || n > 20) {
      return -2;
    }
    if (n < 0) {
      return -14;
    }
    trays[tray] = new int[n];
    Arrays.fill(trays[tray], -1);
    trayKinds[tray] = kind;
    return 1;
  }

  int lays(int tray, int i, int word) {
    if (!in(tray, 0, 3) || word != -1 && !isWord(word)) {
      return -2;
    }
    if (trays[tray] == null) {
      return -11;
    }
    if (!in(i, 0, trays[tray].length - 1)) {
      return -12;
    }
    if (word >= 0 && !under(s.words.get(word).kind, trayKinds[tray])) {
      return -16;
    }
    trays[tray][i] = word;
    return 1;
  }

  int laid(int tray, int i) {
    if (!in(tray, 0, 3)) {
      return -2;
    }
    return trays[tray] == null ? -11 : in(i, 0, trays[tray].length - 1) ? trays[tray][i] : -12;
  }

  int like(int tray, int other) {
    if (!in(tray, 0, 3) || !in(other, 0, 3)) {
      return -2;
    }
    if (trays[other] == null) {
      return -11;
    }
    trays[tray] = trays[other].clone();
    trayKinds[tray] = trayKinds[other];
    return trays[tray].length;
  }

  private int first(int[] sheet, List<String> forms) {
    for (int i = 0; i < Math.max(sheet.length, forms.size()); i++) {
      if (i >= sheet.length || i >= forms.size() || sheet[i] != forms.get(i).length()) {
        return i;
      }
    }
    return -1;
  }

  int tells(int sheet, int what) {
    if (!in(sheet, 0, 3) || !in(what, 0, 2)) {
      return -2;
    }
    int[] told = sheets[sheet];
    if (told == null) {
      return -11;
    }
    if (told.length > 6) {
      return -2;
    }
    List<String> forms = deskSays(s.deskMood, s.deskNumbers);
    if (forms == null) {
      return -3;
    }
    if (what == 0) {
      return first(told, forms);
    }
    int bits = 0;
    for (int k = 0; k < (what == 1 ? 4 : 8); k++) {
      int[] numbers = what == 1 ? s.deskNumbers : new int[] {k & 1, k >> 1 & 1, k >> 2};
      bits += first(told, deskSays(what == 1 ? k : s.deskMood, numbers)) == -1 ? 1 << k : 0;
    }
    return bits;
  }

  int image() {
    image = s.copy();
    return s.words.size();
  }

  int back() {
    if (image == null) {
      return -3;
    }
    s = image.copy();
    return s.words.size();
  }

  int count(int what) {
    if (!in(what, 0, 4)) {
      return -2;
    }
    return new int[] {s.words.size(), s.frames.size(), s.text.size(), line().length(), tape.length()}[what];
  }

  int sheet(int sheet, int sort, int n) {
    if (!in(sheet, 0, 3) || !in(sort, -1, 1) || sort >= 0 && n > 40) {
      return -2;
    }
    if (sort >= 0 && n < 0) {
      return -14;
    }
    sheets[sheet] = sort < 0 ? null : new int[n];
    sorts[sheet] = sort;
    return 1;
  }

  int put(int sheet, int i, int v) {
    if (!in(sheet, 0, 3)) {
      return -2;
    }
    if (sheets[sheet] == null) {
      return -11;
    }
    if (!in(i, 0, sheets[sheet].length - 1)) {
      return -12;
    }
    sheets[sheet][i] = sorts[sheet] == 0 ? (short) v : v;
    return 1;
  }

  int copy(int sheet, int i, int other, int j, int n) {
    if (!in(sheet, 0, 3) || !in(other, 0, 3)) {
      return -2;
    }
    if (sheets[sheet] == null || sheets[other] == null) {
      return -11;
    }
    if (sorts[sheet] != sorts[other]) {
      return -13;
    }
    long size = sheets[sheet].length;
    long room = sheets[other].length;
    if (n < 0 || i < 0 || j < 0 || (long) i + n > size || (long) j + n > room) {
      return -12;
    }
    int[] were = sheets[sheet].clone();
    for (int k = 0; k < n; k++) {
      sheets[other][j + k] = were[i + k];
    }
    return n;
  }

  /** How many ways there are to fill the FRAMES: how long readings(), near() and drawn() take here. */
  long ways() {
    long sum = 0;
    for (List<Hole> f : s.frames) {
      long ways = 1;
      for (Hole h : f) {
        ways *= wordsFor(h).size();
      }
      sum += ways;
    }
    return sum;
  }

  int frames() {
    return s.frames.size();
  }
}
