import java.util.Arrays;

/**
 * A phrase book: WORDS, ENDINGS and sentence FRAMES, what THE DESK says by them, what a text may be,
 * and the host's SHEETS and TRAYS. DOC.md holds its promises; the words in capitals are its terms.
 */
public final class PhraseMoods {
  public static final int NONE = -1, BAD = -2, STATE = -3, FULL = -4;

  private static final int MISSING = -11, OUTSIDE = -12, UNLIKE = -13, NEGATIVE = -14, NOT_MADE_FOR = -16;
  private static final int FAULT = -100;

  private static final int PLAIN = 0, NOUN = 1, VERB = 2, NAME = 3, FITTING = 4, MODAL = 5, KINDS = 6;
  private static final int HOLE_N = 0, HOLE_V = 1, HOLE_F = 2, HOLE_P = 3;
  private static final int TABLES = 4, ROWS = 4, CASES = 4, MOODS = 4, NUMBERS = 2, GENDERS = 3, GROUPS = 3;
  /** What a step in NUMBER, GENDER, MOOD adds to the one number by which form() takes them. */
  private static final int BY_NUMBER = 4, BY_GENDER = 8, BY_MOOD = 24, BYS = 96;

  private static final int WORDS = 20, FRAMES = 5, HOLES = 6, SHEETS = 4, TRAYS = 4;
  private static final int TAPE_ROOM = 50, STEM_ROOM = 6, ENDING_ROOM = 3;
  private static final int FORM_ROOM = STEM_ROOM + ENDING_ROOM + 1;
  private static final int LINE_ROOM = HOLES * (FORM_ROOM + 1);
  private static final int SHEET_ROOM = 40, TRAY_ROOM = WORDS;
  private static final int BYTES_FED = 5, TEMPO_MOST = 99, SEEDS_MOST = 8;
  private static final int BLANK = 32, LINE_END = 10;

  private final Letters tape = new Letters(TAPE_ROOM);
  private final Book book = new Book();
  private final Book kept = new Book();
  private boolean isKept;
  private final FrameReader frameReader = new FrameReader();
  private final Letters spelled = new Letters(FORM_ROOM);
  private final Speaker speaker = new Speaker();
  private final Drawer drawer = new Drawer();
  private final Reader reader = new Reader();
  private final Sheet[] sheets = new Sheet[SHEETS];
  private final Tray[] trays = new Tray[TRAYS];

  public PhraseMoods() {
    for (int i = 0; i < SHEETS; i++) {
      sheets[i] = new Sheet();
    }
    for (int i = 0; i < TRAYS; i++) {
      trays[i] = new Tray();
    }
  }

  // ---- words, endings, frames

  public int feed(int n, int a, int b, int c, int d, int e) {
    if (n < 1 || n > BYTES_FED || !areBytes(a, b, c, d, e)) {
      return BAD;
    }
    if (tape.size + n > TAPE_ROOM) {
      return FULL;
    }
    for (int i = 0; i < n; i++) {
      tape.add(i == 0 ? a : i == 1 ? b : i == 2 ? c : i == 3 ? d : e);
    }
    return tape.size;
  }

  public int word(int kind, int table, int gender) {
    if (!isBelow(kind, KINDS) || !isBelow(table, TABLES) || !isBelow(gender, GENDERS)) {
      return BAD;
    }
    boolean isStem = tape.size >= 1 && tape.size <= STEM_ROOM && tape.isAllLetters();
    int answer = isStem ? book.addWord(tape, kind, table, gender) : STATE;
    tape.clear();
    return answer;
  }

  public int ending(int table, int row, int number) {
    Letters ending = book.endingAt(table, row, number);
    if (ending == null) {
      return BAD;
    }
    int answer = STATE;
    if (tape.size <= ENDING_ROOM && tape.isAllLetters()) {
      answer = ending.size;
      ending.become(tape);
    }
    tape.clear();
    return answer;
  }

  public int frame() {
    int fault = frameReader.read(book, tape);
    tape.clear();
    return fault == NONE ? book.addFrame(frameReader.frame) : FAULT - fault;
  }

  public int told(int word, int what) {
    Word w = book.wordAt(word);
    if (w == null) {
      return BAD;
    }
    switch (what) {
      case 0:
        return w.kind;
      case 1:
        return w.table;
      case 2:
        return w.gender;
      case 3:
        return w.stem.size;
      default:
        return BAD;
    }
  }

  public int taken(int word, int k) {
    Word w = book.wordAt(word);
    if (w == null || !isBelow(k, KINDS)) {
      return BAD;
    }
    if (!w.isOf(k)) {
      return UNLIKE;
    }
    book.spell(w, 1 + BY_NUMBER + w.gender * BY_GENDER + BY_MOOD, spelled);
    return spelled.size;
  }

  public int form(int word, int by, int k) {
    Word w = book.wordAt(word);
    if (w == null || !isBelow(by, BYS)) {
      return BAD;
    }
    book.spell(w, by, spelled);
    return sizeOrLetter(spelled, k);
  }

  public int hole(int frame, int i, int what) {
    Frame f = book.frameAt(frame);
    if (f == null || what < 0 || what > 4) {
      return BAD;
    }
    if (!f.has(i)) {
      return OUTSIDE;
    }
    switch (what) {
      case 0:
        return f.sortOf(i);
      case 1:
        return f.groupOf(i);
      case 2:
        return f.caseOf(i);
      case 3:
        return f.plainOf(i);
      default:
        return book.wordsFor(f, i);
    }
  }

  // ---- what is said

  public int desk(int frame, int mood) {
    Frame f = book.frameAt(frame);
    if (f == null || !isBelow(mood, MOODS)) {
      return BAD;
    }
    book.desk.begin(frame, mood);
    for (int i = 0; i < f.size; i++) {
      book.desk.fill(i, book.wordFor(f, i, 0));
    }
    return f.size;
  }

  public int choose(int i, int word) {
    Word w = book.wordAt(word);
    if (w == null) {
      return BAD;
    }
    Frame f = book.frameAt(book.desk.frame);
    if (f == null) {
      return STATE;
    }
    if (!f.has(i)) {
      return OUTSIDE;
    }
    if (!f.takes(i, w)) {
      return UNLIKE;
    }
    int before = book.desk.wordIn(i);
    book.desk.fill(i, word);
    return before;
  }

  public int number(int group, int n) {
    if (!isBelow(group, GROUPS) || !isBelow(n, NUMBERS)) {
      return BAD;
    }
    if (book.desk.frame == NONE) {
      return STATE;
    }
    int before = book.desk.numbers >> group & 1;
    book.desk.numbers = book.desk.numbers & ~(1 << group) | n << group;
    return before;
  }

  public int said(int k) {
    sayDesk();
    return sizeOrLetter(speaker.line, k);
  }

  public int spoken(int tempo) {
    if (tempo < 1 || tempo > TEMPO_MOST) {
      return BAD;
    }
    sayDesk();
    return bitsOf(speaker.timeBy(tempo));
  }

  // ---- what a text may be

  public int text() {
    int answer = STATE;
    if (tape.isAllWords()) {
      book.text.become(tape);
      answer = book.text.words();
    }
    tape.clear();
    return answer;
  }

  public int readings(int what) {
    if (what < 0 || what > 2) {
      return BAD;
    }
    reader.countReadings(book, book.text);
    return what == 0 ? reader.readings : what == 1 ? reader.firstFrame : reader.firstMood;
  }

  public int near(int what) {
    if (what < 0 || what > 1) {
      return BAD;
    }
    reader.findNearest(book, book.text);
    return what == 0 ? reader.least : reader.leastFrame;
  }

  public int drawn(int seed, int what) {
    if (what < 0 || what > 1) {
      return BAD;
    }
    if (book.frameCount == 0) {
      return STATE;
    }
    if (!sayDrawn(seed)) {
      return 0;
    }
    if (what == 1) {
      return speaker.line.size;
    }
    reader.countReadings(book, speaker.line);
    return reader.readings;
  }

  public int chance(int seed, int m, int part) {
    if (m < 1 || m > SEEDS_MOST || part < 0 || part > 1) {
      return BAD;
    }
    if (book.frameCount == 0) {
      return STATE;
    }
    int sure = 0;
    for (int i = 0; i < m; i++) {
      if (sayDrawn(seed + i)) {
        reader.countReadings(book, speaker.line);
        sure += reader.readings == 1 ? 1 : 0;
      }
    }
    int common = commonDivisor(sure, m);
    return (part == 0 ? sure : m) / common;
  }

  // ---- trays

  public int tray(int tray, int kind, int n) {
    Tray t = trayAt(tray);
    if (t == null || !isBelow(kind, KINDS) || n > TRAY_ROOM) {
      return BAD;
    }
    if (n < 0) {
      return NEGATIVE;
    }
    t.begin(kind, n);
    return 1;
  }

  public int lays(int tray, int i, int word) {
    Tray t = trayAt(tray);
    Word w = book.wordAt(word);
    if (t == null || w == null && word != NONE) {
      return BAD;
    }
    if (t.isMissing()) {
      return MISSING;
    }
    if (!t.has(i)) {
      return OUTSIDE;
    }
    if (w != null && !w.isOf(t.kind)) {
      return NOT_MADE_FOR;
    }
    t.lay(i, word);
    return 1;
  }

  public int laid(int tray, int i) {
    Tray t = trayAt(tray);
    if (t == null) {
      return BAD;
    }
    if (t.isMissing()) {
      return MISSING;
    }
    return t.has(i) ? t.wordAt(i) : OUTSIDE;
  }

  public int like(int tray, int other) {
    Tray to = trayAt(tray);
    Tray from = trayAt(other);
    if (to == null || from == null) {
      return BAD;
    }
    if (from.isMissing()) {
      return MISSING;
    }
    to.become(from);
    return to.size;
  }

  // ---- what was told

  public int tells(int sheet, int what) {
    Sheet s = sheetAt(sheet);
    if (s == null || what < 0 || what > 2) {
      return BAD;
    }
    if (s.isMissing()) {
      return MISSING;
    }
    if (s.size > HOLES) {
      return BAD;
    }
    if (!sayDesk()) {
      return STATE;
    }
    return what == 0 ? firstOtherwise(s) : what == 1 ? moodsTold(s) : numbersTold(s);
  }

  public int image() {
    kept.become(book);
    isKept = true;
    return kept.wordCount;
  }

  public int back() {
    if (!isKept) {
      return STATE;
    }
    book.become(kept);
    return book.wordCount;
  }

  public int count(int what) {
    switch (what) {
      case 0:
        return book.wordCount;
      case 1:
        return book.frameCount;
      case 2:
        return book.text.words();
      case 3:
        sayDesk();
        return speaker.line.size;
      case 4:
        return tape.size;
      default:
        return BAD;
    }
  }

  // ---- the host

  public int sheet(int sheet, int sort, int n) {
    Sheet s = sheetAt(sheet);
    if (s == null || sort < NONE || sort > Sheet.INTS) {
      return BAD;
    }
    if (sort == NONE) {
      s.begin(NONE, 0);
      return 1;
    }
    if (n > SHEET_ROOM) {
      return BAD;
    }
    if (n < 0) {
      return NEGATIVE;
    }
    s.begin(sort, n);
    return 1;
  }

  public int put(int sheet, int i, int v) {
    Sheet s = sheetAt(sheet);
    if (s == null) {
      return BAD;
    }
    if (s.isMissing()) {
      return MISSING;
    }
    if (!s.hasRun(i, 1)) {
      return OUTSIDE;
    }
    s.set(i, v);
    return 1;
  }

  public int copy(int sheet, int i, int other, int j, int n) {
    Sheet from = sheetAt(sheet);
    Sheet to = sheetAt(other);
    if (from == null || to == null) {
      return BAD;
    }
    if (from.isMissing() || to.isMissing()) {
      return MISSING;
    }
    if (from.sort != to.sort) {
      return UNLIKE;
    }
    if (!from.hasRun(i, n) || !to.hasRun(j, n)) {
      return OUTSIDE;
    }
    to.take(j, from, i, n);
    return n;
  }

  // ---- helpers of the face

  private static boolean isBelow(int v, int limit) {
    return v >= 0 && v < limit;
  }

  private static boolean areBytes(int a, int b, int c, int d, int e) {
    // A number below 0 or above 255 leaves a bit above the lowest eight.
    return ((a | b | c | d | e) & ~255) == 0;
  }

  private static int sizeOrLetter(Letters text, int k) {
    if (k == -1) {
      return text.size;
    }
    int letter = text.at(k);
    return letter == NONE ? OUTSIDE : letter;
  }

  /** The bits of a float from 0 to below 2 ** 24, as all times are; by hand, for the library's own is not ours to use. */
  private static int bitsOf(float t) {
    if (!(t > 0f)) {
      return 0;
    }
    float scaled = t;
    int exponent = 127 + 23;
    for (int step = 0; step < 150 && scaled < 8388608f; step++) {
      scaled *= 2f;
      exponent--;
    }
    return exponent << 23 | (int) scaled & 0x7fffff;
  }

  /** At least 1, so that it divides. */
  private static int commonDivisor(int a, int b) {
    int common = 1;
    for (int d = 2; d <= SEEDS_MOST; d++) {
      if (a % d == 0 && b % d == 0) {
        common = d;
      }
    }
    return common;
  }

  private boolean sayDesk() {
    return speaker.say(book, book.desk, book.desk.mood, book.desk.numbers);
  }

  private boolean sayDrawn(int seed) {
    Filling filling = drawer.filling;
    return drawer.draw(book, seed) && speaker.say(book, filling, filling.mood, filling.numbers);
  }

  private Sheet sheetAt(int i) {
    return i >= 0 && i < sheets.length ? sheets[i] : null;
  }

  private Tray trayAt(int i) {
    return i >= 0 && i < trays.length ? trays[i] : null;
  }

  /** The first word of what was said last that is not as long as the SHEET tells. */
  private int firstOtherwise(Sheet s) {
    int both = Math.min(s.size, speaker.words);
    for (int i = 0; i < both; i++) {
      if (s.at(i) != speaker.lengthOf(i)) {
        return i;
      }
    }
    return s.size == speaker.words ? NONE : both;
  }

  private int moodsTold(Sheet s) {
    int bits = 0;
    for (int mood = 0; mood < MOODS; mood++) {
      speaker.say(book, book.desk, mood, book.desk.numbers);
      bits |= firstOtherwise(s) == NONE ? 1 << mood : 0;
    }
    return bits;
  }

  private int numbersTold(Sheet s) {
    int bits = 0;
    for (int numbers = 0; numbers < 1 << GROUPS; numbers++) {
      speaker.say(book, book.desk, book.desk.mood, numbers);
      bits |= firstOtherwise(s) == NONE ? 1 << numbers : 0;
    }
    return bits;
  }

  /** A text that grows in a room made once: what has no room there is left out. */
  private static final class Letters {
    private final byte[] bytes;
    private int size;

    Letters(int room) {
      bytes = new byte[Math.max(room, 0)];
    }

    static boolean isLetter(int b) {
      return b >= 'a' && b <= 'z';
    }

    static boolean isVowel(int b) {
      return b == 'a' || b == 'e' || b == 'i' || b == 'o' || b == 'u';
    }

    int at(int i) {
      return i >= 0 && i < size ? bytes[i] & 255 : NONE;
    }

    void clear() {
      size = 0;
    }

    void add(int b) {
      if (size < bytes.length) {
        bytes[size] = (byte) b;
        size++;
      }
    }

    void become(Letters other) {
      size = Math.min(other.size, bytes.length);
      System.arraycopy(other.bytes, 0, bytes, 0, size);
    }

    void join(Letters other) {
      if (isVowel(at(size - 1)) && isVowel(other.at(0))) {
        size--;
      }
      for (int i = 0; i < other.size; i++) {
        add(other.at(i));
      }
    }

    boolean isAllLetters() {
      for (int i = 0; i < size; i++) {
        if (!isLetter(at(i))) {
          return false;
        }
      }
      return true;
    }

    /** Whether these are words of letters, at least one, with one blank between. */
    boolean isAllWords() {
      for (int i = 0; i < size; i++) {
        boolean isBetween = at(i) == BLANK && isLetter(at(i - 1));
        if (!isLetter(at(i)) && !isBetween) {
          return false;
        }
      }
      return isLetter(at(size - 1));
    }

    int words() {
      int words = size == 0 ? 0 : 1;
      for (int i = 0; i < size; i++) {
        words += at(i) == BLANK ? 1 : 0;
      }
      return words;
    }
  }

  private static final class Word {
    /** By KIND, the one that it is under. */
    private static final int[] ABOVE = {NONE, PLAIN, PLAIN, NOUN, NOUN, VERB};

    private final int number;
    private final Letters stem = new Letters(STEM_ROOM);
    private int kind;
    private int table;
    private int gender;

    Word(int number) {
      this.number = number;
    }

    void become(Word other) {
      begin(other.stem, other.kind, other.table, other.gender);
    }

    void begin(Letters stem, int kind, int table, int gender) {
      this.stem.become(stem);
      this.kind = kind;
      this.table = table;
      this.gender = gender;
    }

    /** Whether it is of a KIND or of one under that. */
    boolean isOf(int wanted) {
      int k = kind;
      for (int step = 0; step < KINDS && k >= 0 && k < ABOVE.length; step++) {
        if (k == wanted) {
          return true;
        }
        k = ABOVE[k];
      }
      return false;
    }
  }

  /** The HOLES of a sentence, and for each GROUP the one that is its n. */
  private static final class Frame {
    private int size;
    private final int[] sorts = new int[HOLES];
    private final int[] groups = new int[HOLES];
    private final int[] cases = new int[HOLES];
    private final int[] plains = new int[HOLES];
    private final int[] nouns = new int[GROUPS];

    void clear() {
      size = 0;
      Arrays.fill(nouns, NONE);
    }

    void add(int sort, int group, int casus, int plain) {
      if (size >= HOLES) {
        return;
      }
      sorts[size] = sort;
      groups[size] = group;
      cases[size] = casus;
      plains[size] = plain;
      if (sort == HOLE_N && isBelow(group, GROUPS)) {
        nouns[group] = size;
      }
      size++;
    }

    void become(Frame other) {
      size = other.size;
      System.arraycopy(other.sorts, 0, sorts, 0, HOLES);
      System.arraycopy(other.groups, 0, groups, 0, HOLES);
      System.arraycopy(other.cases, 0, cases, 0, HOLES);
      System.arraycopy(other.plains, 0, plains, 0, HOLES);
      System.arraycopy(other.nouns, 0, nouns, 0, GROUPS);
    }

    boolean has(int i) {
      return i >= 0 && i < size;
    }

    int sortOf(int i) {
      return has(i) ? sorts[i] : NONE;
    }

    int groupOf(int i) {
      return has(i) ? groups[i] : NONE;
    }

    int caseOf(int i) {
      return has(i) ? cases[i] : NONE;
    }

    int plainOf(int i) {
      return has(i) ? plains[i] : NONE;
    }

    int nounOf(int group) {
      return isBelow(group, GROUPS) ? nouns[group] : NONE;
    }

    /** Whether there is a HOLE, and an n for each GROUP. */
    boolean isWhole() {
      for (int i = 0; i < size; i++) {
        if (groupOf(i) != NONE && nounOf(groupOf(i)) == NONE) {
          return false;
        }
      }
      return size > 0;
    }

    /** Whether a WORD can be in HOLE i. */
    boolean takes(int i, Word w) {
      if (!has(i)) {
        return false;
      }
      switch (sorts[i]) {
        case HOLE_N:
          return w.kind == NOUN || w.kind == NAME;
        case HOLE_V:
          return w.kind == VERB || w.kind == MODAL;
        case HOLE_F:
          return w.kind == FITTING;
        case HOLE_P:
          return w.number == plains[i];
        default:
          return false;
      }
    }
  }

  /** What fills a FRAME: THE DESK, or what was drawn. */
  private static final class Filling {
    private int frame = NONE;
    private int mood;
    /** As bits: GROUP 0 is bit 0. */
    private int numbers;
    private final int[] words = new int[HOLES];

    void begin(int frame, int mood) {
      this.frame = frame;
      this.mood = mood;
      numbers = 0;
      Arrays.fill(words, NONE);
    }

    void become(Filling other) {
      frame = other.frame;
      mood = other.mood;
      numbers = other.numbers;
      System.arraycopy(other.words, 0, words, 0, HOLES);
    }

    void fill(int i, int word) {
      if (isBelow(i, HOLES)) {
        words[i] = word;
      }
    }

    int wordIn(int i) {
      return isBelow(i, HOLES) ? words[i] : NONE;
    }
  }

  /** All that AN IMAGE keeps. */
  private static final class Book {
    private final Word[] words = new Word[WORDS];
    private int wordCount;
    private final Letters[] endings = new Letters[TABLES * ROWS * NUMBERS];
    /** What a FITTING one ends with, by GENDER. */
    private final Letters[] genderEnds = new Letters[GENDERS];
    private final Frame[] frames = new Frame[FRAMES];
    private int frameCount;
    private final Letters text = new Letters(TAPE_ROOM);
    private final Filling desk = new Filling();

    Book() {
      for (int i = 0; i < words.length; i++) {
        words[i] = new Word(i);
      }
      for (int i = 0; i < endings.length; i++) {
        endings[i] = new Letters(ENDING_ROOM);
      }
      for (int i = 0; i < genderEnds.length; i++) {
        genderEnds[i] = new Letters(1);
        genderEnds[i].add(i == 0 ? 'o' : i == 1 ? 'a' : 'e');
      }
      for (int i = 0; i < frames.length; i++) {
        frames[i] = new Frame();
      }
    }

    void become(Book other) {
      for (int i = 0; i < words.length; i++) {
        words[i].become(other.words[i]);
      }
      wordCount = other.wordCount;
      for (int i = 0; i < endings.length; i++) {
        endings[i].become(other.endings[i]);
      }
      for (int i = 0; i < frames.length; i++) {
        frames[i].become(other.frames[i]);
      }
      frameCount = other.frameCount;
      text.become(other.text);
      desk.become(other.desk);
    }

    Word wordAt(int i) {
      return i >= 0 && i < wordCount ? words[i] : null;
    }

    Frame frameAt(int i) {
      return i >= 0 && i < frameCount ? frames[i] : null;
    }

    Letters endingAt(int table, int row, int number) {
      boolean isThere = isBelow(table, TABLES) && isBelow(row, ROWS) && isBelow(number, NUMBERS);
      return isThere ? endings[(table * ROWS + row) * NUMBERS + number] : null;
    }

    int addWord(Letters stem, int kind, int table, int gender) {
      if (wordCount >= words.length) {
        return FULL;
      }
      words[wordCount].begin(stem, kind, table, gender);
      wordCount++;
      return wordCount - 1;
    }

    int addFrame(Frame frame) {
      if (frameCount >= frames.length) {
        return FULL;
      }
      frames[frameCount].become(frame);
      frameCount++;
      return frameCount - 1;
    }

    /** How many WORDS can be in a HOLE. */
    int wordsFor(Frame frame, int hole) {
      int many = 0;
      for (int i = 0; i < wordCount; i++) {
        many += frame.takes(hole, words[i]) ? 1 : 0;
      }
      return many;
    }

    /** Of the WORDS that can be in a HOLE the nth, from 0 (NONE: there are not so many). */
    int wordFor(Frame frame, int hole, int nth) {
      int left = nth;
      for (int i = 0; i < wordCount; i++) {
        if (frame.takes(hole, words[i])) {
          if (left == 0) {
            return i;
          }
          left--;
        }
      }
      return NONE;
    }

    /** Writes the FORM of a WORD; by is CASE, NUMBER, GENDER and MOOD as form() takes them. */
    void spell(Word w, int by, Letters out) {
      int casus = by % BY_NUMBER;
      int number = by / BY_NUMBER % NUMBERS;
      int gender = by / BY_GENDER % GENDERS;
      int mood = by / BY_MOOD;
      out.become(w.stem);
      if (w.kind == PLAIN) {
        return;
      }
      Letters ending = endingAt(w.table, w.isOf(VERB) ? mood : casus, w.kind == NAME ? 0 : number);
      if (ending != null) {
        out.join(ending);
      }
      if (w.kind == FITTING && isBelow(gender, GENDERS)) {
        out.join(genderEnds[gender]);
      }
      if (w.kind == MODAL && mood != 0) {
        out.add(out.at(out.size - 1));
      }
    }
  }

  /** Reads a FRAME from THE TAPE. */
  private static final class FrameReader {
    private final Frame frame = new Frame();
    private int place;

    /** The place of the FAULT, or NONE: then frame is what was read. */
    int read(Book book, Letters tape) {
      frame.clear();
      place = 0;
      skipBlanks(tape);
      // One HOLE more than a FRAME has, for its letter is a FAULT that must be met.
      for (int step = 0; step <= HOLES && place < tape.size; step++) {
        if (!readHole(book, tape)) {
          return place;
        }
        skipBlanks(tape);
      }
      return frame.isWhole() ? NONE : tape.size;
    }

    private void skipBlanks(Letters tape) {
      for (int i = place; i < tape.size && (tape.at(i) == BLANK || tape.at(i) == LINE_END); i++) {
        place = i + 1;
      }
    }

    /** By a FAULT it answers false and stays at its place. */
    private boolean readHole(Book book, Letters tape) {
      int sort = sortBy(tape.at(place));
      if (sort == NONE || frame.size >= HOLES) {
        return false;
      }
      place++;
      return sort == HOLE_P ? readPlain(book, tape) : readGrouped(sort, tape);
    }

    private boolean readGrouped(int sort, Letters tape) {
      int group = digit(tape, place, GROUPS);
      if (group == NONE || sort == HOLE_N && frame.nounOf(group) != NONE) {
        return false;
      }
      place++;
      int casus = NONE;
      if (sort != HOLE_V) {
        casus = digit(tape, place, CASES);
        if (casus == NONE) {
          return false;
        }
        place++;
      }
      frame.add(sort, group, casus, NONE);
      return true;
    }

    private boolean readPlain(Book book, Letters tape) {
      int first = digit(tape, place, 10);
      int second = digit(tape, place + 1, 10);
      int number = second == NONE ? first : 10 * first + second;
      Word w = book.wordAt(number);
      if (first == NONE || w == null || w.kind != PLAIN) {
        return false;
      }
      place += second == NONE ? 1 : 2;
      frame.add(HOLE_P, NONE, NONE, number);
      return true;
    }

    private static int sortBy(int letter) {
      switch (letter) {
        case 'n':
          return HOLE_N;
        case 'v':
          return HOLE_V;
        case 'f':
          return HOLE_F;
        case 'p':
          return HOLE_P;
        default:
          return NONE;
      }
    }

    /** The digit at a place of THE TAPE, if it is below a limit. */
    private static int digit(Letters tape, int i, int limit) {
      int value = tape.at(i) - '0';
      return isBelow(value, limit) ? value : NONE;
    }
  }

  /** Writes what a FILLED FRAME SAYS, and tells how long it is spoken. */
  private static final class Speaker {
    private final Letters spelled = new Letters(FORM_ROOM);
    private final Letters line = new Letters(LINE_ROOM);
    private final int[] lengths = new int[HOLES];
    private int words;

    /** By another MOOD and other NUMBERS than the filling's too; false, and nothing said: it isn't all FILLED. */
    boolean say(Book book, Filling filling, int mood, int numbers) {
      line.clear();
      words = 0;
      Frame frame = book.frameAt(filling.frame);
      if (frame == null) {
        return false;
      }
      for (int i = 0; i < frame.size; i++) {
        Word w = book.wordAt(filling.wordIn(i));
        if (w == null) {
          line.clear();
          words = 0;
          return false;
        }
        book.spell(w, agreement(book, filling, i, numbers) + mood * BY_MOOD, spelled);
        addSpelled();
      }
      return true;
    }

    int lengthOf(int i) {
      return isBelow(i, words) && i < HOLES ? lengths[i] : NONE;
    }

    float timeBy(int tempo) {
      float t = 0f;
      for (int i = 0; i < line.size; i++) {
        int b = line.at(i);
        float x = b == BLANK ? 9f : Letters.isVowel(b) ? 7f : 4f;
        if (b != BLANK && b == line.at(i - 1)) {
          x = x * 0.75f;
        }
        t = t + x / (float) tempo;
      }
      return t;
    }

    private void addSpelled() {
      if (words > 0) {
        line.add(BLANK);
      }
      for (int i = 0; i < spelled.size; i++) {
        line.add(spelled.at(i));
      }
      if (words < HOLES) {
        lengths[words] = spelled.size;
        words++;
      }
    }

    /** CASE of a HOLE, with the NUMBER and the GENDER that its GROUP has from its n. */
    private static int agreement(Book book, Filling filling, int hole, int numbers) {
      Frame frame = book.frameAt(filling.frame);
      if (frame == null || frame.groupOf(hole) == NONE) {
        return 0;
      }
      int group = frame.groupOf(hole);
      Word noun = book.wordAt(filling.wordIn(frame.nounOf(group)));
      if (noun == null) {
        return 0;
      }
      int number = noun.kind == NAME ? 0 : numbers >> group & 1;
      return Math.max(frame.caseOf(hole), 0) + number * BY_NUMBER + noun.gender * BY_GENDER;
    }
  }

  /** Fills a FRAME by what a SEED draws. */
  private static final class Drawer {
    private final Filling filling = new Filling();
    private int z;

    /** False: there is no WORD for a HOLE. */
    boolean draw(Book book, int seed) {
      z = seed;
      int number = next(book.frameCount);
      filling.begin(number, next(MOODS));
      for (int group = 0; group < GROUPS; group++) {
        filling.numbers |= next(NUMBERS) << group;
      }
      Frame frame = book.frameAt(number);
      if (frame == null) {
        return false;
      }
      for (int i = 0; i < frame.size; i++) {
        int many = book.wordsFor(frame, i);
        if (many == 0) {
          return false;
        }
        // A p draws no number: it has just its WORD.
        int nth = frame.sortOf(i) == HOLE_P ? 0 : next(many);
        filling.fill(i, book.wordFor(frame, i, nth));
      }
      return true;
    }

    private int next(int many) {
      z = z * 1103515245 + 12345;
      return many > 0 ? (z >>> 9) % many : 0;
    }
  }

  /**
   * Counts the READINGS of a line, and finds how NEAR it is to what can be said. Once MOOD, NUMBER and the
   * GENDER of the n are set, each HOLE of a GROUP can be looked at alone: so HOLES multiply (or add up) within
   * these, and GROUPS with one another, and no FILLED FRAME need be gone through one by one. The greatest
   * count that 20 WORDS and 5 FRAMES allow stays under 200 million.
   */
  private static final class Reader {
    /** More than any line is apart from another; six of them stay an int. */
    private static final int FAR = 1000000;

    private final Letters spelled = new Letters(FORM_ROOM);
    private final int[] starts = new int[HOLES];
    private final int[] lengths = new int[HOLES];
    private int words;
    private final int[] row = new int[FORM_ROOM + 1];
    private int readings;
    private int firstFrame;
    private int firstMood;
    private int least;
    private int leastFrame;

    void countReadings(Book book, Letters line) {
      split(line);
      readings = 0;
      firstFrame = NONE;
      firstMood = NONE;
      for (int i = 0; i < book.frameCount * MOODS; i++) {
        Frame frame = book.frameAt(i / MOODS);
        if (frame != null && frame.size == words) {
          int more = waysOfFrame(book, line, frame, i % MOODS);
          if (more > 0 && readings == 0) {
            firstFrame = i / MOODS;
            firstMood = i % MOODS;
          }
          readings += more;
        }
      }
    }

    void findNearest(Book book, Letters line) {
      split(line);
      least = FAR;
      leastFrame = NONE;
      for (int i = 0; i < book.frameCount * MOODS; i++) {
        Frame frame = book.frameAt(i / MOODS);
        if (frame != null && frame.size == words) {
          int far = farnessOfFrame(book, line, frame, i % MOODS);
          if (far < least) {
            least = far;
            leastFrame = i / MOODS;
          }
        }
      }
      least = leastFrame == NONE ? NONE : least;
    }

    /** Words beyond those that a FRAME can have are counted alone. */
    private void split(Letters line) {
      words = 0;
      int start = 0;
      for (int i = 0; i <= line.size && line.size > 0; i++) {
        if (i == line.size || line.at(i) == BLANK) {
          if (words < HOLES) {
            starts[words] = start;
            lengths[words] = i - start;
          }
          words++;
          start = i + 1;
        }
      }
    }

    private int waysOfFrame(Book book, Letters line, Frame frame, int mood) {
      int ways = 1;
      for (int i = 0; i < frame.size; i++) {
        ways *= frame.groupOf(i) == NONE ? waysOfHole(book, line, frame, i, 0) : 1;
      }
      for (int group = 0; group < GROUPS && ways > 0; group++) {
        ways *= frame.nounOf(group) == NONE ? 1 : waysOfGroup(book, line, frame, group, mood);
      }
      return ways;
    }

    private int waysOfGroup(Book book, Letters line, Frame frame, int group, int mood) {
      int sum = 0;
      for (int by = mood * BY_MOOD; by < (mood + 1) * BY_MOOD; by += BY_NUMBER) {
        int ways = 1;
        for (int i = 0; i < frame.size && ways > 0; i++) {
          ways *= frame.groupOf(i) == group ? waysOfHole(book, line, frame, i, by) : 1;
        }
        sum += ways;
      }
      return sum;
    }

    private int waysOfHole(Book book, Letters line, Frame frame, int hole, int by) {
      int ways = 0;
      int withCase = by + Math.max(frame.caseOf(hole), 0);
      for (int i = 0; i < book.wordCount; i++) {
        Word w = book.wordAt(i);
        if (w != null && fits(frame, hole, w, by)) {
          book.spell(w, withCase, spelled);
          ways += isSpelledAt(line, hole) ? 1 : 0;
        }
      }
      return ways;
    }

    private int farnessOfFrame(Book book, Letters line, Frame frame, int mood) {
      int far = 0;
      for (int i = 0; i < frame.size; i++) {
        far += frame.groupOf(i) == NONE ? farnessOfHole(book, line, frame, i, 0) : 0;
      }
      for (int group = 0; group < GROUPS; group++) {
        far += frame.nounOf(group) == NONE ? 0 : farnessOfGroup(book, line, frame, group, mood);
      }
      return far;
    }

    private int farnessOfGroup(Book book, Letters line, Frame frame, int group, int mood) {
      int nearest = FAR;
      for (int by = mood * BY_MOOD; by < (mood + 1) * BY_MOOD; by += BY_NUMBER) {
        int far = 0;
        for (int i = 0; i < frame.size && far < nearest; i++) {
          far += frame.groupOf(i) == group ? farnessOfHole(book, line, frame, i, by) : 0;
        }
        nearest = Math.min(nearest, far);
      }
      return nearest;
    }

    private int farnessOfHole(Book book, Letters line, Frame frame, int hole, int by) {
      int nearest = FAR;
      int withCase = by + Math.max(frame.caseOf(hole), 0);
      for (int i = 0; i < book.wordCount; i++) {
        Word w = book.wordAt(i);
        if (w != null && fits(frame, hole, w, by)) {
          book.spell(w, withCase, spelled);
          nearest = Math.min(nearest, apartFrom(line, hole));
        }
      }
      return nearest;
    }

    /** Whether a WORD can be in a HOLE where the n has this GENDER and its GROUP this NUMBER (of a NAME's just 0). */
    private static boolean fits(Frame frame, int hole, Word w, int by) {
      if (!frame.takes(hole, w)) {
        return false;
      }
      int number = by / BY_NUMBER % NUMBERS;
      int gender = by / BY_GENDER % GENDERS;
      return frame.sortOf(hole) != HOLE_N || w.gender == gender && (w.kind != NAME || number == 0);
    }

    private int startOf(int word) {
      return isBelow(word, HOLES) ? starts[word] : 0;
    }

    private int lengthOf(int word) {
      return isBelow(word, HOLES) ? lengths[word] : 0;
    }

    private boolean isSpelledAt(Letters line, int word) {
      if (spelled.size != lengthOf(word)) {
        return false;
      }
      for (int i = 0; i < spelled.size; i++) {
        if (spelled.at(i) != line.at(startOf(word) + i)) {
          return false;
        }
      }
      return true;
    }

    /** How far what is spelled is APART from a word of the line: row holds it for each part of what is spelled. */
    private int apartFrom(Letters line, int word) {
      int size = Math.min(spelled.size, FORM_ROOM);
      for (int j = 0; j <= size; j++) {
        row[j] = j;
      }
      for (int i = 1; i <= lengthOf(word); i++) {
        int letter = line.at(startOf(word) + i - 1);
        int corner = row[0];
        row[0] = i;
        for (int j = 1; j <= size; j++) {
          int changed = corner + (spelled.at(j - 1) == letter ? 0 : 1);
          corner = row[j];
          row[j] = Math.min(changed, Math.min(row[j - 1], row[j]) + 1);
        }
      }
      return row[size];
    }
  }

  /** A row of WORDS, or missing. */
  private static final class Tray {
    private int kind = NONE;
    private int size;
    private final int[] words = new int[TRAY_ROOM];

    void begin(int kind, int size) {
      this.kind = kind;
      this.size = size;
      Arrays.fill(words, NONE);
    }

    void become(Tray other) {
      kind = other.kind;
      size = other.size;
      System.arraycopy(other.words, 0, words, 0, TRAY_ROOM);
    }

    boolean isMissing() {
      return kind == NONE;
    }

    boolean has(int i) {
      return i >= 0 && i < size && i < TRAY_ROOM;
    }

    int wordAt(int i) {
      return has(i) ? words[i] : NONE;
    }

    void lay(int i, int word) {
      if (has(i)) {
        words[i] = word;
      }
    }
  }

  /** A row of numbers, or missing. */
  private static final class Sheet {
    private static final int SHORTS = 0, INTS = 1;

    private int sort = NONE;
    private int size;
    private final int[] items = new int[SHEET_ROOM];

    void begin(int sort, int size) {
      this.sort = sort;
      this.size = size;
      Arrays.fill(items, 0);
    }

    boolean isMissing() {
      return sort == NONE;
    }

    /** Whether there are n items from i on; the sum of i and n could go beyond an int. */
    boolean hasRun(int i, int n) {
      return i >= 0 && n >= 0 && i <= size && n <= size - i;
    }

    int at(int i) {
      return hasRun(i, 1) ? items[i] : 0;
    }

    void set(int i, int v) {
      if (hasRun(i, 1)) {
        items[i] = sort == SHORTS ? (short) v : v;
      }
    }

    void take(int j, Sheet from, int i, int n) {
      if (from.hasRun(i, n) && hasRun(j, n)) {
        System.arraycopy(from.items, i, items, j, n);
      }
    }
  }
}
