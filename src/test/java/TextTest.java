/** Promises 15 to 19: THE TEXT, its readings, how near it is, what is drawn, chances. */
final class TextTest {
  public static void main(String[] args) {
    texts();
    readingsOfMoods();
    readingsOfGroups();
    readingsOfNames();
    readingsFirst();
    manyReadings();
    nears();
    nearsOfFrames();
    apart();
    draws();
    drawsWithoutWords();
    chances();
    Due.end();
  }

  private static void texts() {
    PhraseMoods x = new PhraseMoods();
    Due.due("text of none", x.text(), -3);
    Due.due("text of one", Due.text(x, "az"), 1);
    String[] none = {" ", " a", "a ", "a  b", "A", "a\nb", "a9", "a`", "a{", "a\u00e1b", "a b c "};
    for (String t : none) {
      Due.due("text \"" + t + "\"", Due.text(x, t), -3);
      Due.due("text \"" + t + "\", tape empty", x.count(4), 0);
      Due.due("text \"" + t + "\", the one ahead stays", x.count(2), 1);
    }
    Due.due("text of three", Due.text(x, "a bc d"), 3);
    Due.due("text, tape empty", x.count(4), 0);
    Due.due("count(2)", x.count(2), 3);
    String most = "a a a a a a a a a a a a a a a a a a a a a a a a ab";
    Due.due("text of 25", Due.text(x, most), 25);
    Due.due("readings of 25 words", x.readings(0), 0);
    Due.due("near of 25 words", x.near(0), -1);
  }

  private static void readingsAre(String call, PhraseMoods x, int many, int frame, int mood) {
    Due.due(call + ": readings(0)", x.readings(0), many);
    Due.due(call + ": readings(1)", x.readings(1), frame);
    Due.due(call + ": readings(2)", x.readings(2), mood);
  }

  private static void readingsOfMoods() {
    PhraseMoods x = Due.small();
    Due.due("readings what -1", x.readings(-1), -2);
    Due.due("readings what 3", x.readings(3), -2);
    readingsAre("no text", x, 0, -1, -1);
    Due.text(x, "and");
    readingsAre("no frame", x, 0, -1, -1);
    Due.frame(x, "p0");
    readingsAre("each mood", x, 4, 0, 0);
    Due.text(x, "ana");
    readingsAre("another word", x, 0, -1, -1);
    Due.frame(x, "n00v0");
    Due.text(x, "gat caneta");
    readingsAre("by mood 2", x, 1, 1, 2);
    Due.text(x, "gat cani");
    readingsAre("by moods 1, 3", x, 2, 1, 1);
    Due.text(x, "gats cani");
    readingsAre("moods 1, 2, 3 of number 1", x, 3, 1, 1);
    Due.text(x, "gat podee");
    readingsAre("a modal by moods 1, 3", x, 2, 1, 1);
    Due.text(x, "gat pode");
    readingsAre("a modal by no mood", x, 0, -1, -1);
    Due.text(x, "gat canan");
    readingsAre("numbers that do not agree", x, 0, -1, -1);
    Due.text(x, "gat cana and");
    readingsAre("a word too many", x, 0, -1, -1);
    Due.text(x, "gat");
    readingsAre("a word too few", x, 0, -1, -1);
  }

  private static void readingsOfGroups() {
    PhraseMoods x = new PhraseMoods();
    Due.word(x, "ka", 1, 0, 0);
    Due.word(x, "ka", 1, 0, 1);
    Due.word(x, "vo", 2, 0, 0);
    Due.word(x, "f", 4, 0, 0);
    Due.word(x, "f", 4, 0, 2);
    Due.frame(x, "f10n10v0n00");
    Due.text(x, "fo ka vo ka");
    // Two fitting ones, one noun (of gender 0), two nouns; moods 4, numbers 2 by 2.
    readingsAre("fo", x, 2 * 1 * 2 * 4 * 4, 0, 0);
    Due.text(x, "fa ka vo ka");
    readingsAre("fa", x, 2 * 1 * 2 * 4 * 4, 0, 0);
    Due.text(x, "fe ka vo ka");
    readingsAre("fe", x, 0, -1, -1);
    Due.ending(x, "s", 0, 3, 1);
    Due.frame(x, "n03n10");
    Due.text(x, "kas ka");
    readingsAre("an ending for case 3", x, 2 * 2 * 2 * 4, 1, 0);
    Due.text(x, "ka ka");
    readingsAre("number 0 of group 0", x, 2 * 2 * 2 * 4, 1, 0);
  }

  private static void readingsOfNames() {
    PhraseMoods x = new PhraseMoods();
    Due.word(x, "bo", 3, 0, 1);
    Due.word(x, "v", 2, 0, 0);
    Due.frame(x, "v0n00");
    Due.text(x, "v bo");
    readingsAre("a name is of number 0 alone", x, 4, 0, 0);
    Due.ending(x, "i", 0, 0, 1);
    Due.text(x, "vi bo");
    readingsAre("a name's verb is of number 0", x, 0, -1, -1);
    Due.word(x, "bo", 1, 1, 1);
    readingsAre("a noun's verb", x, 1, 0, 0);
    Due.text(x, "v bo");
    readingsAre("a name by 4, a noun by 4 and the 3 other moods", x, 4 + 4 + 3, 0, 0);
  }

  private static void readingsFirst() {
    PhraseMoods x = Due.small();
    Due.frame(x, "n00");
    Due.frame(x, "p0v0n00");
    Due.frame(x, "v0 n00");
    Due.frame(x, "v0 n03");
    Due.text(x, "cani gat");
    readingsAre("two frames", x, 2 + 5, 2, 1);
    Due.text(x, "caneta gat");
    readingsAre("two frames, mood 2", x, 2, 2, 2);
    x.desk(0, 3);
    readingsAre("the desk has no part", x, 2, 2, 2);
  }

  private static void manyReadings() {
    PhraseMoods x = new PhraseMoods();
    for (int i = 0; i < 3; i++) {
      Due.word(x, "a", 1, 0, 0);
    }
    for (int i = 0; i < 17; i++) {
      Due.word(x, "a", 2, 0, 0);
    }
    for (int i = 0; i < 5; i++) {
      Due.frame(x, "n00v0v0v0v0v0");
    }
    Due.text(x, "a a a a a a");
    readingsAre("the most", x, 5 * 4 * 2 * 3 * 17 * 17 * 17 * 17 * 17, 0, 0);
  }

  private static void nearIs(String call, PhraseMoods x, int far, int frame) {
    Due.due(call + ": near(0)", x.near(0), far);
    Due.due(call + ": near(1)", x.near(1), frame);
  }

  private static void nears() {
    PhraseMoods x = Due.small();
    Due.due("near what -1", x.near(-1), -2);
    Due.due("near what 2", x.near(2), -2);
    nearIs("no frame", x, -1, -1);
    Due.frame(x, "n00v0");
    nearIs("no text", x, -1, -1);
    Due.text(x, "gat");
    nearIs("a word too few", x, -1, -1);
    Due.text(x, "gat cana");
    nearIs("what can be said", x, 0, 0);
    Due.text(x, "gats cana");
    nearIs("an s too many, or an n too few", x, 1, 0);
    Due.text(x, "gt xcanet");
    nearIs("three letters", x, 3, 0);
    Due.text(x, "annas canan");
    // A name has number 0: ana by 2 and cana by 1; gats by 3 (a, n, n) and canan by 0.
    nearIs("a name", x, 3, 0);
  }

  private static void nearsOfFrames() {
    PhraseMoods x = new PhraseMoods();
    Due.word(x, "ka", 0, 0, 0);
    Due.word(x, "kab", 1, 0, 0);
    Due.frame(x, "n00v0");
    Due.text(x, "kab vo");
    nearIs("a frame that can't be filled", x, -1, -1);
    Due.frame(x, "p0p0");
    nearIs("one that can", x, 3, 1);
    Due.frame(x, "n00p0");
    nearIs("a nearer one", x, 2, 2);
    Due.frame(x, "n01 p0");
    nearIs("the least of two", x, 2, 2);
    Due.word(x, "o", 2, 0, 0);
    nearIs("the first is filled now", x, 1, 0);
    Due.text(x, "ka");
    nearIs("none of as many holes", x, -1, -1);
    nearsOfForms();
    // The gender that agrees costs more at the n than it saves at the fitting ones, or less.
    PhraseMoods y = new PhraseMoods();
    Due.word(y, "na", 1, 0, 0);
    Due.word(y, "nax", 1, 0, 1);
    Due.word(y, "f", 4, 0, 0);
    Due.frame(y, "f00f00n00");
    Due.text(y, "fa fa na");
    nearIs("by gender 1", y, 1, 0);
    Due.text(y, "fa fo na");
    nearIs("by gender 0", y, 1, 0);
  }

  private static void nearsOfForms() {
    PhraseMoods x = new PhraseMoods();
    Due.word(x, "bo", 3, 1, 2);
    Due.word(x, "v", 2, 0, 0);
    String[] ends = {"ka", "la", "ma", "na"};
    for (int i = 0; i < 4; i++) {
      Due.ending(x, ends[i], 0, i, 0);
      Due.ending(x, "xyz", 0, i, 1);
    }
    Due.ending(x, "t", 1, 2, 0);
    Due.frame(x, "n02v0");
    Due.text(x, "bot v");
    nearIs("no mood is without an ending", x, 2, 0);
    Due.text(x, "bot vma");
    nearIs("by case 2 and mood 2", x, 0, 0);
    Due.text(x, "bo vka");
    nearIs("no other case", x, 1, 0);
  }

  private static void apart() {
    String[][] pairs = {{"a", "b"}, {"kitten", "sittin"}, {"abc", "cab"}, {"abcdef", "f"}, {"ab", "ba"}, {"sunday", "satur"},
      {"abcabc", "bcabca"}, {"a", "xxxxxxxxxxxxxxxxxxxxxxxxxxxxxxxxxxxxxxxxxxxxxxxxxa"}};
    int[] far = {1, 2, 2, 5, 2, 5, 2, 49};
    for (int i = 0; i < pairs.length; i++) {
      PhraseMoods x = new PhraseMoods();
      Due.word(x, pairs[i][0], 0, 0, 0);
      Due.frame(x, "p0");
      Due.text(x, pairs[i][1]);
      nearIs(pairs[i][0] + ", " + pairs[i][1], x, far[i], 0);
    }
  }

  private static void draws() {
    PhraseMoods x = new PhraseMoods();
    Due.due("drawn what -1, no frame", x.drawn(0, -1), -2);
    Due.due("drawn what 2, no frame", x.drawn(0, 2), -2);
    Due.due("drawn, no frame", x.drawn(0, 0), -3);
    PhraseMoods y = Due.small();
    Due.frame(y, "n00v0");
    Due.frame(y, "f01n01p0v0");
    y.desk(0, 0);
    Due.text(y, "a b");
    String before = Due.said(y);
    Due.due("drawn(5, 0)", y.drawn(5, 0), 3);
    Due.due("drawn(5, 1)", y.drawn(5, 1), 10);
    Due.dueText("drawn in thought", Due.said(y), before);
    Due.due("drawn in thought, the text", y.count(2), 2);
    for (int seed : new int[] {0, 1, -1, 77, Integer.MIN_VALUE, Integer.MAX_VALUE}) {
      PhraseMoods z = Due.small();
      Due.frame(z, "n00v0");
      Due.frame(z, "f01n01p0v0");
      String line = drawnBy(z, seed);
      Due.due("drawn(" + seed + ", 1)", z.drawn(seed, 1), line.length());
      Due.text(z, line);
      Due.due("drawn(" + seed + ", 0)", z.drawn(seed, 0), z.readings(0));
    }
  }

  private static int z;

  private static int next(int many) {
    z = z * 1103515245 + 12345;
    return (z >>> 9) % many;
  }

  /** Says at THE DESK what a SEED draws of the two frames of draws(). */
  private static String drawnBy(PhraseMoods x, int seed) {
    z = seed;
    int frame = next(2);
    x.desk(frame, next(4));
    int[] numbers = {next(2), next(2), next(2)};
    int[] nouns = {1, 2, 4};
    int[] verbs = {3, 6};
    if (frame == 0) {
      x.choose(0, nouns[next(3)]);
      x.choose(1, verbs[next(2)]);
    } else {
      next(1);
      x.choose(1, nouns[next(3)]);
      x.choose(3, verbs[next(2)]);
    }
    x.number(0, numbers[0]);
    return Due.said(x);
  }

  private static void drawsWithoutWords() {
    PhraseMoods x = new PhraseMoods();
    Due.word(x, "ka", 1, 0, 0);
    Due.frame(x, "n00v0");
    for (int seed = 0; seed < 5; seed++) {
      Due.due("drawn without a verb, 0", x.drawn(seed, 0), 0);
      Due.due("drawn without a verb, 1", x.drawn(seed, 1), 0);
    }
    Due.due("chance without a verb, above", x.chance(3, 8, 0), 0);
    Due.due("chance without a verb, below", x.chance(3, 8, 1), 1);
  }

  private static void chances() {
    PhraseMoods x = new PhraseMoods();
    Due.due("chance m 0", x.chance(0, 0, 0), -2);
    Due.due("chance m 9", x.chance(0, 9, 0), -2);
    Due.due("chance part -1", x.chance(0, 1, -1), -2);
    Due.due("chance part 2", x.chance(0, 1, 2), -2);
    Due.due("chance, no frame", x.chance(0, 1, 0), -3);
    PhraseMoods y = Due.small();
    Due.frame(y, "n00v0");
    Due.frame(y, "f01n01p0v0");
    for (int seed : new int[] {5, -3, 1000, Integer.MAX_VALUE - 3}) {
      int sure = 0;
      for (int m = 1; m <= 8; m++) {
        sure += y.drawn(seed + m - 1, 0) == 1 ? 1 : 0;
        int d = m;
        while (sure % d != 0 || m % d != 0) {
          d--;
        }
        Due.due("chance(" + seed + ", " + m + ", 0)", y.chance(seed, m, 0), sure / d);
        Due.due("chance(" + seed + ", " + m + ", 1)", y.chance(seed, m, 1), m / d);
      }
    }
    // One word that can be said in one way alone: of a mood each.
    PhraseMoods w = new PhraseMoods();
    Due.word(w, "bo", 3, 0, 0);
    Due.word(w, "v", 2, 1, 0);
    String[] ends = {"ka", "la", "ma", "na"};
    for (int mood = 0; mood < 4; mood++) {
      Due.ending(w, ends[mood], 1, mood, 0);
    }
    Due.frame(w, "n00v0");
    Due.due("all sure, above", w.chance(9, 6, 0), 1);
    Due.due("all sure, below", w.chance(9, 6, 1), 1);
  }
}
