/**
 * The boundary cases of promises 1 to 4 and 6 to 8, and of what the terms say of WORDS, ENDINGS and FORMS: a test for
 * each sentence, named by its promise. What stands in quotes are the document's words.
 */
final class BoundsOfWordsTest {
  private static final int MIN = Integer.MIN_VALUE, MAX = Integer.MAX_VALUE;
  /** Bytes next to a .. z, capitals, digits, blanks, and a to z with the highest bit. */
  private static final String[] NO_LETTERS = {"`", "{", "A", "Z", "@", "[", "0", "9", " ", "\n", "\t", "\u0000", "\u007f", "\u0080",
    "\u00e1", "\u00fa", "\u00ff"};

  public static void main(String[] args) {
    Due.runAll(BoundsOfWordsTest.class);
  }

  private static String many(char letter, int n) {
    return String.valueOf(letter).repeat(n);
  }

  // ---- promise 1: a new object

  // "No WORDS"
  static void p01NoWords() {
    PhraseMoods x = new PhraseMoods();
    Due.due("count(0)", x.count(0), 0);
    Due.due("told", x.told(0, 0), -2);
    Due.due("taken", x.taken(0, 0), -2);
    Due.due("form", x.form(0, 0, -1), -2);
    Due.due("choose", x.choose(0, 0), -2);
    Due.due("the first gets 0", Due.word(x, "a", 0, 0, 0), 0);
  }

  // "no FRAMES"
  static void p01NoFrames() {
    PhraseMoods x = new PhraseMoods();
    Due.due("count(1)", x.count(1), 0);
    Due.due("hole", x.hole(0, 0, 0), -2);
    Due.due("desk", x.desk(0, 0), -2);
    Due.due("drawn", x.drawn(0, 0), -3);
    Due.due("chance", x.chance(0, 1, 0), -3);
    Due.due("the first gets 0", Due.frame(x, "n00"), 0);
  }

  // "all of none at first": ENDINGS have no letters
  static void p01AllEndingsOfNoLetters() {
    PhraseMoods x = new PhraseMoods();
    for (int i = 0; i < 32; i++) {
      Due.due("ending " + i, x.ending(i / 8, i / 2 % 4, i % 2), 0);
    }
    PhraseMoods y = new PhraseMoods();
    for (int table = 0; table < 4; table++) {
      Due.word(y, "kto", 1, table, 0);
      for (int by = 0; by < 8; by++) {
        Due.dueText("form by " + by, Due.form(y, table, by), "kto");
      }
    }
  }

  // THE DESK has a FRAME "NONE at first"
  static void p01NoFrameOnTheDesk() {
    PhraseMoods x = Due.small();
    Due.frame(x, "n00");
    Due.due("number", x.number(0, 0), -3);
    Due.due("choose", x.choose(0, 1), -3);
    Due.due("said(-1)", x.said(-1), 0);
    Due.due("said(0)", x.said(0), -12);
    Due.due("spoken", x.spoken(1), 0);
    Due.due("count(3)", x.count(3), 0);
  }

  // THE TEXT: "none at first"
  static void p01NoText() {
    PhraseMoods x = Due.small();
    Due.frame(x, "n00");
    Due.due("count(2)", x.count(2), 0);
    Due.due("readings(0)", x.readings(0), 0);
    Due.due("readings(1)", x.readings(1), -1);
    Due.due("readings(2)", x.readings(2), -1);
    Due.due("near(0)", x.near(0), -1);
    Due.due("near(1)", x.near(1), -1);
  }

  static void p01NothingOnTheTape() {
    PhraseMoods x = new PhraseMoods();
    Due.due("count(4)", x.count(4), 0);
    Due.due("word", x.word(0, 0, 0), -3);
    Due.due("text", x.text(), -3);
    Due.due("frame", x.frame(), -100);
  }

  // TRAYS are "missing (as all are at first)"
  static void p01AllTraysAreMissing() {
    PhraseMoods x = new PhraseMoods();
    for (int i = 0; i < 4; i++) {
      Due.due("laid(" + i + ", 0)", x.laid(i, 0), -11);
      Due.due("lays(" + i + ", 0, NONE)", x.lays(i, 0, -1), -11);
      Due.due("like(0, " + i + ")", x.like(0, i), -11);
    }
  }

  // SHEETS are "missing (as all are at first)"
  static void p01AllSheetsAreMissing() {
    PhraseMoods x = new PhraseMoods();
    for (int i = 0; i < 4; i++) {
      Due.due("put(" + i + ", 0, 0)", x.put(i, 0, 0), -11);
      Due.due("tells(" + i + ", 0)", x.tells(i, 0), -11);
      Due.due("copy(" + i + ", ..)", x.copy(i, 0, i, 0, 0), -11);
    }
  }

  static void p01NoImage() {
    Due.due("back", new PhraseMoods().back(), -3);
  }

  static void p01TwoObjectsShareNothing() {
    PhraseMoods x = Due.small();
    PhraseMoods y = new PhraseMoods();
    Due.frame(x, "n00");
    Due.text(x, "gat");
    x.desk(0, 0);
    x.tray(0, 0, 1);
    x.sheet(0, 0, 1);
    x.image();
    Due.feed(x, "tape");
    for (int what = 0; what < 5; what++) {
      Due.due("count(" + what + ")", y.count(what), 0);
    }
    Due.due("ending", y.ending(0, 0, 1), 0);
    Due.due("laid", y.laid(0, 0), -11);
    Due.due("put", y.put(0, 0, 0), -11);
    Due.due("back", y.back(), -3);
  }

  static void p01Constants() {
    Due.due("NONE", PhraseMoods.NONE, -1);
    Due.due("BAD", PhraseMoods.BAD, -2);
    Due.due("STATE", PhraseMoods.STATE, -3);
    Due.due("FULL", PhraseMoods.FULL, -4);
  }

  // ---- promise 2: feed

  // "n bytes (1 .. 5)"
  static void p02FeedOf0BytesIsBad() {
    PhraseMoods x = new PhraseMoods();
    Due.due("feed(0)", x.feed(0, 97, 97, 97, 97, 97), -2);
    Due.due("feed(-1)", x.feed(-1, 97, 97, 97, 97, 97), -2);
    Due.due("feed(least)", x.feed(MIN, 97, 97, 97, 97, 97), -2);
    Due.due("nothing came", x.count(4), 0);
  }

  static void p02FeedOf6BytesIsBad() {
    PhraseMoods x = new PhraseMoods();
    Due.due("feed(6)", x.feed(6, 97, 97, 97, 97, 97), -2);
    Due.due("feed(most)", x.feed(MAX, 97, 97, 97, 97, 97), -2);
    Due.due("nothing came", x.count(4), 0);
  }

  static void p02FeedOf1To5BytesTakesTheFirstOnes() {
    for (int n = 1; n <= 5; n++) {
      PhraseMoods x = new PhraseMoods();
      Due.due("feed(" + n + ")", x.feed(n, 'p', 'q', 'r', 's', 't'), n);
      Due.due("count(4)", x.count(4), n);
      x.word(0, 0, 0);
      Due.dueText("those n", Due.form(x, 0, 0), "pqrst".substring(0, n));
    }
  }

  private static int feedWith(PhraseMoods x, int n, int place, int b) {
    int[] v = {97, 97, 97, 97, 97};
    v[place] = b;
    return x.feed(n, v[0], v[1], v[2], v[3], v[4]);
  }

  // "all 0 .. 255"
  static void p02ByteBelow0IsBad() {
    PhraseMoods x = new PhraseMoods();
    for (int place = 0; place < 5; place++) {
      for (int b : new int[] {-1, -159, -256, MIN}) {
        Due.due("byte " + b + " in place " + place, feedWith(x, 5, place, b), -2);
      }
    }
    Due.due("nothing came", x.count(4), 0);
  }

  static void p02ByteAbove255IsBad() {
    PhraseMoods x = new PhraseMoods();
    for (int place = 0; place < 5; place++) {
      for (int b : new int[] {256, 353, 65536 + 97, MAX}) {
        Due.due("byte " + b + " in place " + place, feedWith(x, 5, place, b), -2);
      }
    }
    Due.due("nothing came", x.count(4), 0);
  }

  // "also those that are not asked"
  static void p02ByteThatIsNotAskedIsBadToo() {
    PhraseMoods x = new PhraseMoods();
    for (int n = 1; n < 5; n++) {
      for (int place = n; place < 5; place++) {
        Due.due("byte -1 in place " + place + " of " + n, feedWith(x, n, place, -1), -2);
        Due.due("byte 256 in place " + place + " of " + n, feedWith(x, n, place, 256), -2);
      }
    }
    Due.due("nothing came", x.count(4), 0);
  }

  static void p02Bytes0And255Come() {
    for (int place = 0; place < 5; place++) {
      PhraseMoods x = new PhraseMoods();
      Due.due("byte 0 in place " + place, feedWith(x, 5, place, 0), 5);
      Due.due("byte 255 in place " + place, feedWith(x, 5, place, 255), 10);
      Due.due("byte 255, not asked or asked last", feedWith(x, 1, place, 255), 11);
    }
  }

  // "come behind THE TAPE"
  static void p02BytesComeBehind() {
    PhraseMoods x = new PhraseMoods();
    x.feed(2, 'a', 'b', 'z', 'z', 'z');
    Due.due("how many it has", x.feed(3, 'c', 'd', 'e', 'z', 'z'), 5);
    Due.due("how many it has", x.feed(1, 'f', 'z', 'z', 'z', 'z'), 6);
    x.word(0, 0, 0);
    Due.dueText("in order", Due.form(x, 0, 0), "abcdef");
  }

  // "THE TAPE (50 bytes at most)"
  static void p02TapeOf50Bytes() {
    PhraseMoods x = new PhraseMoods();
    for (int i = 1; i <= 10; i++) {
      Due.due("feed", x.feed(5, 97, 97, 97, 97, 97), 5 * i);
    }
    Due.due("count(4)", x.count(4), 50);
    Due.due("a 51st", x.feed(1, 97, 0, 0, 0, 0), -4);
    Due.due("count(4)", x.count(4), 50);
  }

  // "FULL: they have no room"
  static void p02FullTakesNoneOfThem() {
    for (int n = 2; n <= 5; n++) {
      PhraseMoods x = new PhraseMoods();
      Due.feed(x, many('a', 51 - n));
      Due.due("feed(" + n + ")", x.feed(n, 97, 97, 97, 97, 97), -4);
      Due.due("none came", x.count(4), 51 - n);
      Due.due("one less has room", x.feed(n - 1, 97, 97, 97, 97, 97), 50);
    }
  }

  static void p02BadIsAheadOfFull() {
    PhraseMoods x = new PhraseMoods();
    Due.feed(x, many('a', 50));
    Due.due("n 6", x.feed(6, 97, 97, 97, 97, 97), -2);
    Due.due("n 0", x.feed(0, 97, 97, 97, 97, 97), -2);
    Due.due("byte 256", x.feed(1, 256, 97, 97, 97, 97), -2);
    Due.due("byte 256, not asked", x.feed(1, 97, 97, 97, 97, 256), -2);
  }

  // ---- promise 3: word

  // "STEM (1 .. 6 letters)"
  static void p03StemOfNoLettersIsState() {
    PhraseMoods x = new PhraseMoods();
    Due.due("word", x.word(0, 0, 0), -3);
    Due.due("count(0)", x.count(0), 0);
  }

  static void p03StemOf1To6Letters() {
    PhraseMoods x = new PhraseMoods();
    for (int n = 1; n <= 6; n++) {
      Due.due("stem of " + n, Due.word(x, "kloubr".substring(0, n), 0, 0, 0), n - 1);
      Due.due("its size", x.told(n - 1, 3), n);
      Due.dueText("its form", Due.form(x, n - 1, 0), "kloubr".substring(0, n));
    }
  }

  static void p03StemOf7LettersIsState() {
    PhraseMoods x = new PhraseMoods();
    Due.due("7", Due.word(x, "kloubra", 0, 0, 0), -3);
    Due.due("50", Due.word(x, many('a', 50), 0, 0, 0), -3);
    Due.due("count(0)", x.count(0), 0);
  }

  // "letters a .. z"
  static void p03LettersAToZAreAStem() {
    PhraseMoods x = new PhraseMoods();
    String[] stems = {"abcdef", "ghijkl", "mnopqr", "stuvwx", "yz"};
    for (int i = 0; i < stems.length; i++) {
      Due.due(stems[i], Due.word(x, stems[i], 0, 0, 0), i);
      Due.dueText("its form", Due.form(x, i, 0), stems[i]);
    }
  }

  static void p03OtherBytesAreNoStem() {
    PhraseMoods x = new PhraseMoods();
    for (String s : NO_LETTERS) {
      Due.due("alone: " + (int) s.charAt(0), Due.word(x, s, 0, 0, 0), -3);
      Due.due("ahead: " + (int) s.charAt(0), Due.word(x, s + "bc", 0, 0, 0), -3);
      Due.due("between: " + (int) s.charAt(0), Due.word(x, "a" + s + "c", 0, 0, 0), -3);
      Due.due("behind: " + (int) s.charAt(0), Due.word(x, "abcde" + s, 0, 0, 0), -3);
    }
    Due.due("count(0)", x.count(0), 0);
  }

  // "THE TAPE, which is empty then (by a FAULT, too)"
  static void p03TapeIsEmptyByAWord() {
    PhraseMoods x = new PhraseMoods();
    Due.word(x, "ab", 0, 0, 0);
    Due.due("count(4)", x.count(4), 0);
    Due.word(x, "c", 0, 0, 0);
    Due.dueText("the next one", Due.form(x, 1, 0), "c");
  }

  static void p03TapeIsEmptyByState() {
    PhraseMoods x = new PhraseMoods();
    Due.word(x, "kloubra", 0, 0, 0);
    Due.due("behind 7 letters", x.count(4), 0);
    Due.word(x, "a1", 0, 0, 0);
    Due.due("behind a 1", x.count(4), 0);
    Due.due("the next one", Due.word(x, "c", 0, 0, 0), 0);
    Due.dueText("the next one", Due.form(x, 0, 0), "c");
  }

  // "BAD (THE TAPE stays)"; KINDS are 0 .. 5
  static void p03KindOutsideIsBadAndTheTapeStays() {
    PhraseMoods x = new PhraseMoods();
    Due.feed(x, "ab");
    for (int kind : new int[] {-1, 6, MIN, MAX}) {
      Due.due("kind " + kind, x.word(kind, 0, 0), -2);
      Due.due("count(4)", x.count(4), 2);
    }
    Due.due("kind 0", x.word(0, 0, 0), 0);
    Due.dueText("what stood there", Due.form(x, 0, 0), "ab");
    Due.due("kind 5", Due.word(x, "c", 5, 0, 0), 1);
    Due.due("kind 5", x.told(1, 0), 5);
  }

  // "TABLES 0 .. 3"
  static void p03TableOutsideIsBadAndTheTapeStays() {
    PhraseMoods x = new PhraseMoods();
    Due.feed(x, "ab");
    for (int table : new int[] {-1, 4, MIN, MAX}) {
      Due.due("table " + table, x.word(0, table, 0), -2);
      Due.due("count(4)", x.count(4), 2);
    }
    Due.due("table 3", x.word(0, 3, 0), 0);
    Due.due("table 3", x.told(0, 1), 3);
    Due.due("table 0", Due.word(x, "c", 0, 0, 0), 1);
  }

  // "a GENDER (0 .. 2)"
  static void p03GenderOutsideIsBadAndTheTapeStays() {
    PhraseMoods x = new PhraseMoods();
    Due.feed(x, "ab");
    for (int gender : new int[] {-1, 3, MIN, MAX}) {
      Due.due("gender " + gender, x.word(0, 0, gender), -2);
      Due.due("count(4)", x.count(4), 2);
    }
    Due.due("gender 2", x.word(0, 0, 2), 0);
    Due.due("gender 2", x.told(0, 2), 2);
    Due.due("gender 0", Due.word(x, "c", 0, 0, 0), 1);
  }

  static void p03BadIsAheadOfState() {
    PhraseMoods x = new PhraseMoods();
    Due.due("of no letters", x.word(6, 0, 0), -2);
    Due.feed(x, "1");
    Due.due("of no stem", x.word(0, 4, 0), -2);
    Due.due("of no stem", x.word(0, 0, 3), -2);
    Due.due("it stays", x.count(4), 1);
    Due.due("state", x.word(0, 0, 0), -3);
  }

  private static PhraseMoods with20Words() {
    PhraseMoods x = new PhraseMoods();
    for (int i = 0; i < 20; i++) {
      Due.due("word " + i, Due.word(x, (char) ('a' + i) + "k", i % 6, i % 4, i % 3), i);
    }
    return x;
  }

  // "WORDS (20 at most, numbered from 0)"
  static void p03Word20IsTheLastOne() {
    PhraseMoods x = with20Words();
    Due.due("count(0)", x.count(0), 20);
    Due.due("a 21st", Due.word(x, "more", 0, 0, 0), -4);
    Due.due("count(0)", x.count(0), 20);
    for (int i = 0; i < 20; i++) {
      Due.due("kind", x.told(i, 0), i % 6);
      Due.due("table", x.told(i, 1), i % 4);
      Due.due("gender", x.told(i, 2), i % 3);
      Due.due("letter 0", x.form(i, 0, 0), 'a' + i);
    }
  }

  // "FULL (.. THE TAPE is empty by both)"
  static void p03TapeIsEmptyByFull() {
    PhraseMoods x = with20Words();
    Due.word(x, "more", 0, 0, 0);
    Due.due("count(4)", x.count(4), 0);
  }

  // "FULL (behind STATE ..)"
  static void p03FullIsBehindState() {
    PhraseMoods x = with20Words();
    Due.due("no letters", x.word(0, 0, 0), -3);
    Due.due("7 letters", Due.word(x, "kloubra", 0, 0, 0), -3);
    Due.due("a 1", Due.word(x, "1", 0, 0, 0), -3);
  }

  static void p03FullIsBehindBad() {
    PhraseMoods x = with20Words();
    Due.feed(x, "ab");
    Due.due("kind 6", x.word(6, 0, 0), -2);
    Due.due("it stays", x.count(4), 2);
  }

  // ---- promise 4: ending

  // "ENDINGS (texts of 0 .. 3 letters a .. z"
  static void p04EndingOf0To3Letters() {
    PhraseMoods x = new PhraseMoods();
    Due.word(x, "k", 1, 0, 0);
    for (int n = 3; n >= 0; n--) {
      Due.due("ending of " + n, Due.ending(x, "rst".substring(0, n), 0, 0, 0), n == 3 ? 0 : n + 1);
      Due.dueText("form", Due.form(x, 0, 0), "krst".substring(0, n + 1));
    }
  }

  static void p04EndingOf4LettersIsState() {
    PhraseMoods x = new PhraseMoods();
    Due.due("4", Due.ending(x, "rstv", 0, 0, 0), -3);
    Due.due("50", Due.ending(x, many('a', 50), 0, 0, 0), -3);
    Due.due("there is none", x.ending(0, 0, 0), 0);
  }

  static void p04LettersAToZAreAnEnding() {
    PhraseMoods x = new PhraseMoods();
    String[] ends = {"abc", "def", "ghi", "jkl", "mno", "pqr", "stu", "vwx", "yz"};
    Due.word(x, "k", 1, 0, 0);
    for (String s : ends) {
      Due.ending(x, s, 0, 0, 0);
      Due.dueText("form", Due.form(x, 0, 0), "k" + s);
    }
  }

  static void p04OtherBytesAreNoEnding() {
    PhraseMoods x = new PhraseMoods();
    for (String s : NO_LETTERS) {
      Due.due("alone: " + (int) s.charAt(0), Due.ending(x, s, 0, 0, 0), -3);
      Due.due("ahead: " + (int) s.charAt(0), Due.ending(x, s + "b", 0, 0, 0), -3);
      Due.due("between: " + (int) s.charAt(0), Due.ending(x, "a" + s + "b", 0, 0, 0), -3);
      Due.due("behind: " + (int) s.charAt(0), Due.ending(x, "ab" + s, 0, 0, 0), -3);
    }
    Due.due("there is none", x.ending(0, 0, 0), 0);
  }

  // "ending(): an empty TAPE is an ENDING of no letters."
  static void p04EmptyTapeIsAnEndingOfNoLetters() {
    PhraseMoods x = Due.small();
    Due.due("the one ahead of it", x.ending(0, 1, 1), 2);
    Due.dueText("no letters", Due.form(x, 1, Due.by(1, 1, 0, 0)), "gat");
    Due.due("the one ahead of it", x.ending(0, 1, 1), 0);
  }

  static void p04TapeIsEmptyByAnEnding() {
    PhraseMoods x = new PhraseMoods();
    Due.ending(x, "ab", 0, 0, 0);
    Due.due("count(4)", x.count(4), 0);
  }

  // "THE TAPE, which is empty then (by a FAULT, too)"; "they change nothing"
  static void p04StateEmptiesTheTapeAndTheEndingStays() {
    PhraseMoods x = Due.small();
    Due.due("4 letters", Due.ending(x, "rstv", 0, 1, 1), -3);
    Due.due("count(4)", x.count(4), 0);
    Due.due("a 1", Due.ending(x, "1", 0, 1, 1), -3);
    Due.due("count(4)", x.count(4), 0);
    Due.dueText("it stays", Due.form(x, 1, Due.by(1, 1, 0, 0)), "gatos");
  }

  // "BAD (THE TAPE stays)"
  static void p04TableOutsideIsBadAndTheTapeStays() {
    endingIsBad(new int[][] {{-1, 0, 0}, {4, 0, 0}, {MIN, 0, 0}, {MAX, 0, 0}});
  }

  // "by ROW 0 .. 3"
  static void p04RowOutsideIsBadAndTheTapeStays() {
    endingIsBad(new int[][] {{0, -1, 0}, {0, 4, 0}, {0, MIN, 0}, {0, MAX, 0}, {1, -1, 0}, {3, 4, 1}});
  }

  // "and NUMBER 0, 1"
  static void p04NumberOutsideIsBadAndTheTapeStays() {
    endingIsBad(new int[][] {{0, 0, -1}, {0, 0, 2}, {0, 0, MIN}, {0, 0, MAX}, {1, 1, -1}, {3, 3, 2}});
  }

  private static void endingIsBad(int[][] calls) {
    PhraseMoods x = new PhraseMoods();
    Due.feed(x, "ab");
    for (int[] c : calls) {
      Due.due("ending(" + c[0] + ", " + c[1] + ", " + c[2] + ")", x.ending(c[0], c[1], c[2]), -2);
      Due.due("count(4)", x.count(4), 2);
    }
    x.word(0, 0, 0);
    Due.dueText("what stood there", Due.form(x, 0, 0), "ab");
    for (int i = 0; i < 32; i++) {
      Due.due("no ending changed", x.ending(i / 8, i / 2 % 4, i % 2), 0);
    }
  }

  static void p04BadIsAheadOfState() {
    PhraseMoods x = new PhraseMoods();
    Due.feed(x, "rstv1");
    Due.due("table 4", x.ending(4, 0, 0), -2);
    Due.due("row 4", x.ending(0, 4, 0), -2);
    Due.due("number 2", x.ending(0, 0, 2), -2);
    Due.due("it stays", x.count(4), 5);
  }

  // "how long the one ahead of it there was"
  static void p04EachPlaceHasItsOwn() {
    PhraseMoods x = new PhraseMoods();
    for (int i = 0; i < 32; i++) {
      Due.due("none ahead", Due.ending(x, "rst".substring(0, 1 + i % 3), i / 8, i / 2 % 4, i % 2), 0);
    }
    for (int i = 0; i < 32; i++) {
      Due.due("the one ahead", x.ending(i / 8, i / 2 % 4, i % 2), 1 + i % 3);
    }
  }

  static void p04LastPlaceIsThere() {
    PhraseMoods x = new PhraseMoods();
    Due.word(x, "k", 1, 3, 0);
    Due.due("ending(3, 3, 1)", Due.ending(x, "rst", 3, 3, 1), 0);
    Due.dueText("form", Due.form(x, 0, Due.by(3, 1, 0, 0)), "krst");
  }

  // ---- promise 6: told

  static void p06WordThatIsNoneIsBad() {
    PhraseMoods x = Due.small();
    for (int word : new int[] {-1, 7, 19, 20, MIN, MAX}) {
      for (int what = 0; what < 4; what++) {
        Due.due("told(" + word + ", " + what + ")", x.told(word, what), -2);
      }
    }
    Due.due("the last", x.told(6, 0), 5);
    Due.due("the first", x.told(0, 0), 0);
  }

  static void p06WhatOutsideIsBad() {
    PhraseMoods x = Due.small();
    for (int what : new int[] {-1, 4, MIN, MAX}) {
      Due.due("told(1, " + what + ")", x.told(1, what), -2);
    }
  }

  static void p06WhatFrom0To3() {
    PhraseMoods x = new PhraseMoods();
    Due.word(x, "kloubr", 1, 3, 2);
    int[] due = {1, 3, 2, 6};
    for (int what = 0; what < 4; what++) {
      Due.due("told(0, " + what + ")", x.told(0, what), due[what]);
    }
  }

  // ---- promise 7: taken

  static void p07WordThatIsNoneIsBad() {
    PhraseMoods x = Due.small();
    for (int word : new int[] {-1, 7, 20, MIN, MAX}) {
      Due.due("taken(" + word + ", 0)", x.taken(word, 0), -2);
    }
  }

  static void p07KindOutsideIsBad() {
    PhraseMoods x = Due.small();
    for (int k : new int[] {-1, 6, MIN, MAX}) {
      Due.due("taken(1, " + k + ")", x.taken(1, k), -2);
    }
  }

  // "A WORD taken for one of KIND k, or one under that"; "-13"
  static void p07WordOfAnotherKindIsUnlike() {
    PhraseMoods x = new PhraseMoods();
    String[] under = {"0", "01", "02", "013", "014", "025"};
    for (int kind = 0; kind < 6; kind++) {
      Due.word(x, "k", kind, 0, 0);
      for (int k = 0; k < 6; k++) {
        boolean isUnder = under[kind].indexOf((char) ('0' + k)) >= 0;
        Due.due("kind " + kind + " taken for " + k, x.taken(kind, k), isUnder ? (kind < 4 ? 1 : 2) : -13);
      }
    }
  }

  static void p07BadIsAheadOfUnlike() {
    PhraseMoods x = Due.small();
    Due.due("kind 6 of a plain one", x.taken(0, 6), -2);
    Due.due("no word, kind 5", x.taken(7, 5), -2);
  }

  // "by CASE 1, NUMBER 1, its GENDER, MOOD 1"
  static void p07ByCase1Number1Mood1() {
    PhraseMoods x = new PhraseMoods();
    for (int i = 0; i < 8; i++) {
      // Of ROW 1 and NUMBER 1 alone three letters, of ROW 1 and NUMBER 0 two.
      Due.ending(x, "rst".substring(0, i == 3 ? 3 : i == 2 ? 2 : 1), 0, i / 2, i % 2);
    }
    int[] due = {1, 4, 4, 3, 5, 5};
    for (int kind = 0; kind < 6; kind++) {
      Due.word(x, "k", kind, 0, 2);
      Due.due("taken of kind " + kind, x.taken(kind, 0), due[kind]);
    }
  }

  // A WORD stays what it is, whatever it is taken for.
  static void p07FormIsThatOfItsOwnKind() {
    PhraseMoods x = new PhraseMoods();
    Due.ending(x, "r", 0, 1, 0);
    Due.ending(x, "rst", 0, 1, 1);
    Due.word(x, "k", 3, 0, 0);
    Due.word(x, "k", 4, 0, 0);
    Due.word(x, "k", 5, 0, 0);
    for (int k : new int[] {0, 1, 3}) {
      Due.due("a name for " + k, x.taken(0, k), 2);
    }
    for (int k : new int[] {0, 1, 4}) {
      Due.due("a fitting one for " + k, x.taken(1, k), 5);
    }
    for (int k : new int[] {0, 2, 5}) {
      Due.due("a modal for " + k, x.taken(2, k), 5);
    }
  }

  // ---- promise 8: form

  static void p08WordThatIsNoneIsBad() {
    PhraseMoods x = Due.small();
    for (int word : new int[] {-1, 7, 20, MIN, MAX}) {
      Due.due("form(" + word + ", 0, -1)", x.form(word, 0, -1), -2);
    }
  }

  // "as one (.. 0 .. 95)"
  static void p08ByOutside0To95IsBad() {
    PhraseMoods x = Due.small();
    for (int by : new int[] {-1, 96, 97, MIN, MAX}) {
      Due.due("form(1, " + by + ", -1)", x.form(1, by, -1), -2);
    }
    Due.due("form(1, 0, -1)", x.form(1, 0, -1), 3);
    Due.due("form(6, 95, -1)", x.form(6, 95, -1), 5);
  }

  // "case, and 4 times number, 8 times gender, 24 times mood"
  static void p08ByIsTakenApart() {
    for (int mood = 0; mood < 4; mood++) {
      byIsTakenApart(mood);
    }
  }

  private static void byIsTakenApart(int mood) {
    PhraseMoods x = new PhraseMoods();
    for (int i = 0; i < 8; i++) {
      Due.ending(x, "" + (char) ('p' + i), 0, i / 2, i % 2);
    }
    Due.word(x, "k", 4, 0, 0);
    Due.word(x, "k", 2, 0, 0);
    Due.word(x, "k", 5, 0, 0);
    for (int by = 24 * mood; by < 24 * (mood + 1); by++) {
      int casus = by % 4, number = by / 4 % 2, gender = by / 8 % 3;
      char noun = (char) ('p' + 2 * casus + number);
      char verb = (char) ('p' + 2 * mood + number);
      // 'u' stands for CASE 2 and NUMBER 1, and for MOOD 2 and NUMBER 1; a VOWEL ahead of a VOWEL goes.
      String fitting = "k" + (noun == 'u' ? "" : noun) + "oae".charAt(gender);
      Due.dueText("a fitting one by " + by, Due.form(x, 0, by), fitting);
      Due.dueText("a verb by " + by, Due.form(x, 1, by), "k" + verb);
      Due.dueText("a modal by " + by, Due.form(x, 2, by), "k" + verb + (mood == 0 ? "" : verb));
    }
  }

  // "how long (k -1), letter k"; "-12"
  static void p08LetterOutsideIsOutside() {
    PhraseMoods x = Due.small();
    Due.due("how long", x.form(1, 4, -1), 4);
    Due.due("the first", x.form(1, 4, 0), 'g');
    Due.due("the last", x.form(1, 4, 3), 's');
    for (int k : new int[] {4, 5, -2, -3, MIN, MAX}) {
      Due.due("letter " + k, x.form(1, 4, k), -12);
    }
  }

  static void p08BadIsAheadOfOutside() {
    PhraseMoods x = Due.small();
    Due.due("no word", x.form(7, 0, 99), -2);
    Due.due("by 96", x.form(1, 96, 99), -2);
    Due.due("by -1", x.form(1, -1, -2), -2);
  }

  // The longest FORM: a STEM of 6, an ENDING of 3, one letter more.
  static void p08LongestForms() {
    PhraseMoods x = new PhraseMoods();
    Due.ending(x, "rst", 0, 1, 0);
    Due.word(x, "kloubr", 4, 0, 0);
    Due.word(x, "kloubr", 5, 0, 0);
    Due.due("how long", x.form(0, Due.by(1, 0, 0, 0), -1), 10);
    Due.dueText("a fitting one", Due.form(x, 0, Due.by(1, 0, 1, 0)), "kloubrrsta");
    Due.due("how long", x.form(1, Due.by(0, 0, 0, 1), -1), 10);
    Due.dueText("a modal", Due.form(x, 1, Due.by(0, 0, 0, 1)), "kloubrrstt");
    Due.due("letter 9", x.form(1, 24, 9), 't');
    Due.due("letter 10", x.form(1, 24, 10), -12);
  }

  // "if the first ends with a VOWEL and the second begins with one, the first's last goes": VOWELS are a, e, i, o, u
  static void p08VowelAheadOfAVowelGoes() {
    for (char first : "aeiou".toCharArray()) {
      for (char second : "aeiou".toCharArray()) {
        Due.dueText("k" + first + " and " + second, joined("k" + first, "" + second), "k" + second);
      }
    }
  }

  static void p08NoOtherLetterGoesAheadOfAVowel() {
    for (char first = 'a'; first <= 'z'; first++) {
      if ("aeiou".indexOf(first) < 0) {
        Due.dueText("k" + first + " and a", joined("k" + first, "a"), "k" + first + "a");
      }
    }
  }

  static void p08VowelAheadOfAnotherLetterStays() {
    for (char second = 'a'; second <= 'z'; second++) {
      if ("aeiou".indexOf(second) < 0) {
        Due.dueText("ka and " + second, joined("ka", "" + second), "ka" + second);
      }
    }
  }

  static void p08VowelAheadOfNothingStays() {
    Due.dueText("ka and nothing", joined("ka", ""), "ka");
    Due.dueText("a and nothing", joined("a", ""), "a");
  }

  // The first's last goes alone, and once.
  static void p08OnlyTheLastOneGoes() {
    Due.dueText("aeio and uia", joined("aeio", "uia"), "aeiuia");
    Due.dueText("koo and oo", joined("koo", "oo"), "kooo");
  }

  static void p08StemOfOneVowelGoesAltogether() {
    Due.dueText("a and ert", joined("a", "ert"), "ert");
    Due.dueText("a and e", joined("a", "e"), "e");
  }

  private static String joined(String stem, String ending) {
    PhraseMoods x = new PhraseMoods();
    Due.ending(x, ending, 2, 0, 0);
    Due.word(x, stem, 1, 2, 0);
    return Due.form(x, 0, 0);
  }

  // "0 PLAIN: the STEM"
  static void p08PlainIsItsStemByAnything() {
    PhraseMoods x = new PhraseMoods();
    for (int i = 0; i < 8; i++) {
      Due.ending(x, "rst", 0, i / 2, i % 2);
    }
    Due.word(x, "ko", 0, 0, 2);
    for (int by = 0; by < 96; by++) {
      Due.dueText("by " + by, Due.form(x, 0, by), "ko");
    }
  }

  private static PhraseMoods withAllEndings(int kind) {
    PhraseMoods x = new PhraseMoods();
    for (int i = 0; i < 32; i++) {
      Due.ending(x, "" + (char) ('b' + i % 8) + (char) ('v' + i / 8), i / 8, i / 2 % 4, i % 2);
    }
    for (int table = 0; table < 4; table++) {
      Due.word(x, "k", kind, table, 1);
    }
    return x;
  }

  private static String endingOf(int table, int row, int number) {
    return "" + (char) ('b' + 2 * row + number) + (char) ('v' + table);
  }

  // "1 NOUN under PLAIN: the STEM JOINED with the ENDING of its TABLE by CASE and NUMBER"
  static void p08NounByItsTableCaseAndNumber() {
    PhraseMoods x = withAllEndings(1);
    for (int i = 0; i < 32; i++) {
      int table = i / 8, casus = i / 2 % 4, number = i % 2, mood = (casus + 1) % 4;
      Due.dueText("noun " + i, Due.form(x, table, Due.by(casus, number, 2, mood)), "k" + endingOf(table, casus, number));
    }
  }

  // "2 VERB under PLAIN: the STEM JOINED with the ENDING of its TABLE by MOOD and NUMBER"
  static void p08VerbByItsTableMoodAndNumber() {
    PhraseMoods x = withAllEndings(2);
    for (int i = 0; i < 32; i++) {
      int table = i / 8, mood = i / 2 % 4, number = i % 2, casus = (mood + 1) % 4;
      Due.dueText("verb " + i, Due.form(x, table, Due.by(casus, number, 2, mood)), "k" + endingOf(table, mood, number));
    }
  }

  // "3 NAME under NOUN: a NOUN's of NUMBER 0"
  static void p08NameIsOfNumber0() {
    PhraseMoods x = withAllEndings(3);
    for (int i = 0; i < 32; i++) {
      int table = i / 8, casus = i / 2 % 4, number = i % 2, mood = (casus + 1) % 4;
      Due.dueText("name " + i, Due.form(x, table, Due.by(casus, number, 2, mood)), "k" + endingOf(table, casus, 0));
    }
  }

  // "a NOUN's JOINED with o, a, e (by GENDER 0, 1, 2)": the GENDER that is asked, not its own
  static void p08FittingByTheGenderThatIsAsked() {
    for (int table = 0; table < 4; table++) {
      PhraseMoods x = withAllEndings(4);
      for (int i = 0; i < 24; i++) {
        int casus = i / 6, number = i / 3 % 2, gender = i % 3;
        String due = "k" + endingOf(table, casus, number) + "oae".charAt(gender);
        Due.dueText("fitting one " + i, Due.form(x, table, Due.by(casus, number, gender, (casus + 1) % 4)), due);
      }
    }
  }

  static void p08FittingIsJoinedTwice() {
    PhraseMoods x = new PhraseMoods();
    Due.ending(x, "e", 0, 0, 0);
    Due.ending(x, "el", 0, 1, 0);
    Due.word(x, "ka", 4, 0, 0);
    Due.word(x, "a", 4, 0, 0);
    Due.dueText("both vowels go", Due.form(x, 0, Due.by(0, 0, 0, 0)), "ko");
    Due.dueText("the first goes", Due.form(x, 0, Due.by(1, 0, 0, 0)), "kelo");
    Due.dueText("of no ending", Due.form(x, 0, Due.by(2, 0, 0, 0)), "ko");
    Due.dueText("both go, nothing is left of them", Due.form(x, 1, Due.by(0, 0, 1, 0)), "a");
  }

  // "a VERB's; if MOOD isn't 0, its last letter stands twice"
  static void p08ModalsLastLetterTwiceIfMoodIsNot0() {
    PhraseMoods x = withAllEndings(5);
    for (int i = 0; i < 32; i++) {
      int table = i / 8, mood = i / 2 % 4, number = i % 2;
      String verb = "k" + endingOf(table, mood, number);
      Due.dueText("modal " + i, Due.form(x, table, Due.by(1, number, 0, mood)), mood == 0 ? verb : verb + verb.charAt(2));
    }
  }

  static void p08ModalOfNoEnding() {
    PhraseMoods x = new PhraseMoods();
    Due.word(x, "e", 5, 0, 0);
    Due.dueText("mood 0", Due.form(x, 0, 0), "e");
    for (int mood = 1; mood < 4; mood++) {
      Due.dueText("a vowel stands twice by mood " + mood, Due.form(x, 0, Due.by(0, 0, 0, mood)), "ee");
    }
  }
}
