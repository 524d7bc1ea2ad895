/** Promises 1 to 9 and 27: a new object, the tape, words, endings, frames, counts. */
final class BookTest {
  public static void main(String[] args) {
    aNewObject();
    feeds();
    words();
    endings();
    frames();
    frameFaults();
    framesFull();
    tellsOfWords();
    takesWords();
    forms();
    holes();
    counts();
    Due.end();
  }

  private static void aNewObject() {
    PhraseMoods x = new PhraseMoods();
    for (int what = 0; what <= 4; what++) {
      Due.due("new: count(" + what + ")", x.count(what), 0);
    }
    Due.due("new: told(0, 0)", x.told(0, 0), -2);
    Due.due("new: hole(0, 0, 0)", x.hole(0, 0, 0), -2);
    Due.due("new: desk(0, 0)", x.desk(0, 0), -2);
    Due.due("new: said(-1)", x.said(-1), 0);
    Due.due("new: back()", x.back(), -3);
    for (int i = 0; i < 4; i++) {
      Due.due("new: put(" + i + ", 0, 1)", x.put(i, 0, 1), -11);
      Due.due("new: laid(" + i + ", 0)", x.laid(i, 0), -11);
      Due.due("new: ending", Due.ending(x, "a", i, 0, 0), 0);
    }
  }

  private static void feeds() {
    PhraseMoods x = new PhraseMoods();
    Due.due("feed n 0", x.feed(0, 97, 97, 97, 97, 97), -2);
    Due.due("feed n 6", x.feed(6, 97, 97, 97, 97, 97), -2);
    Due.due("feed n least", x.feed(Integer.MIN_VALUE, 97, 97, 97, 97, 97), -2);
    Due.due("feed n most", x.feed(Integer.MAX_VALUE, 97, 97, 97, 97, 97), -2);
    for (int bad : new int[] {-1, 256, Integer.MIN_VALUE, Integer.MAX_VALUE}) {
      Due.due("feed a " + bad, x.feed(1, bad, 0, 0, 0, 0), -2);
      Due.due("feed b " + bad, x.feed(1, 97, bad, 0, 0, 0), -2);
      Due.due("feed c " + bad, x.feed(1, 97, 0, bad, 0, 0), -2);
      Due.due("feed d " + bad, x.feed(1, 97, 0, 0, bad, 0), -2);
      Due.due("feed e " + bad, x.feed(1, 97, 0, 0, 0, bad), -2);
    }
    Due.due("feed refused", x.count(4), 0);
    Due.due("feed 255", x.feed(2, 0, 255, 255, 255, 255), 2);
    for (int i = 0; i < 9; i++) {
      Due.due("feed five", x.feed(5, 97, 97, 97, 97, 97), 7 + 5 * i);
    }
    Due.due("feed full", x.feed(4, 97, 97, 97, 97, 97), -4);
    Due.due("feed bad ahead of full", x.feed(4, 97, 97, 97, 97, 256), -2);
    Due.due("feed the last three", x.feed(3, 97, 97, 97, 97, 97), 50);
    Due.due("feed one more", x.feed(1, 97, 0, 0, 0, 0), -4);
    Due.due("feed kept", x.count(4), 50);
    PhraseMoods y = new PhraseMoods();
    y.feed(5, 97, 98, 99, 100, 101);
    y.word(0, 0, 0);
    Due.dueText("feed in order", Due.form(y, 0, 0), "abcde");
  }

  private static void words() {
    PhraseMoods x = new PhraseMoods();
    Due.feed(x, "abc");
    int[][] bad = {{-1, 0, 0}, {6, 0, 0}, {0, -1, 0}, {0, 4, 0}, {0, 0, -1}, {0, 0, 3}};
    for (int[] b : bad) {
      Due.due("word bad", x.word(b[0], b[1], b[2]), -2);
      Due.due("word bad, tape stays", x.count(4), 3);
    }
    Due.due("word", x.word(5, 3, 2), 0);
    Due.due("word, tape empty", x.count(4), 0);
    Due.due("word of no stem", x.word(0, 0, 0), -3);
    Due.due("word of 7", Due.word(x, "abcdefg", 0, 0, 0), -3);
    Due.due("word of 7, tape empty", x.count(4), 0);
    for (String s : new String[] {"a`", "a{", "A", "a b", "9", "a\u00e9", "\u0000"}) {
      Due.due("word of " + s, Due.word(x, s, 0, 0, 0), -3);
    }
    Due.due("word of 6", Due.word(x, "azazaz", 0, 0, 0), 1);
    for (int i = 2; i < 20; i++) {
      Due.due("word " + i, Due.word(x, "q", i % 6, i % 4, i % 3), i);
    }
    Due.due("a 21st word of no stem", x.word(0, 0, 0), -3);
    Due.feed(x, "q");
    Due.due("a 21st word, bad", x.word(6, 0, 0), -2);
    Due.due("a 21st word", x.word(0, 0, 0), -4);
    Due.due("a 21st word, tape empty", x.count(4), 0);
    Due.due("20 words", x.count(0), 20);
    Due.due("word 19", x.told(19, 1), 3);
  }

  private static void endings() {
    PhraseMoods x = new PhraseMoods();
    Due.feed(x, "ab");
    int[][] bad = {{-1, 0, 0}, {4, 0, 0}, {0, -1, 0}, {0, 4, 0}, {0, 0, -1}, {0, 0, 2}};
    for (int[] b : bad) {
      Due.due("ending bad", x.ending(b[0], b[1], b[2]), -2);
      Due.due("ending bad, tape stays", x.count(4), 2);
    }
    Due.due("ending", x.ending(3, 3, 1), 0);
    Due.due("ending, tape empty", x.count(4), 0);
    Due.due("ending of three", Due.ending(x, "xyz", 3, 3, 1), 2);
    Due.due("ending of four", Due.ending(x, "xyzx", 3, 3, 1), -3);
    Due.due("ending of four, tape empty", x.count(4), 0);
    Due.due("ending with a blank", Due.ending(x, "x ", 3, 3, 1), -3);
    Due.due("ending with a capital", Due.ending(x, "X", 3, 3, 1), -3);
    Due.due("ending of none", x.ending(3, 3, 1), 3);
    Due.due("ending behind none", Due.ending(x, "k", 3, 3, 1), 0);
    // Each place of the tables is its own.
    int places = 0;
    for (int table = 0; table < 4; table++) {
      for (int row = 0; row < 4; row++) {
        for (int number = 0; number < 2; number++) {
          int before = places == 31 ? 1 : 0;
          Due.due("ending place", Due.ending(x, "xyz".substring(0, places % 4), table, row, number), before);
          places++;
        }
      }
    }
    places = 0;
    for (int table = 0; table < 4; table++) {
      for (int row = 0; row < 4; row++) {
        for (int number = 0; number < 2; number++) {
          Due.due("ending stood", x.ending(table, row, number), places % 4);
          places++;
        }
      }
    }
  }

  private static void frames() {
    PhraseMoods x = Due.small();
    Due.due("a frame", Due.frame(x, "\n n00 v0\nf03p0  "), 0);
    Due.due("a frame, tape empty", x.count(4), 0);
    Due.due("n ahead or behind", Due.frame(x, "v2f21n23"), 1);
    Due.due("three groups", Due.frame(x, "n00n11n22v0v1v2"), 2);
    Due.due("p of two digits", Due.frame(x, "p00p0 p00"), 3);
    Due.due("frames", x.count(1), 4);
  }

  private static void frameFaults() {
    PhraseMoods x = Due.small();
    for (int i = 7; i < 12; i++) {
      Due.word(x, "z", i >= 10 ? 0 : 1, 0, 0);
    }
    String[] texts = {
      "", " ", "\n\n", "x", " x", "n", "n0", "n3", "n00v", "n00v3", "n04", "n0 0", "n 00", "n00 n01", "n00n10n01",
      "v0", "v0 ", "f00", "n00f1", "n00f10", "n00f14", "p", "p ", "px", "p1", "p12", "p99", "p001", "p110", "p0 0",
      "n00v0v0v0v0v0v0", "n00v0v0v0v0v0 x", "n00v0v0v0v0v0 ", "v0v0v0v0v0v0", "v0v0v0v0v0v0n00", "N00", "n00\t", "n00,", "p:", "p0:", "p/", "n:0", "n0/",
      "n000", "v0 n00 v1", "n00v0p0p7", "f01 n01 p1 v0", "n00\u00ee"};
    int[] places = {
      0, 1, 2, 0, 1, 1, 2, 1, 4, 4, 2, 2, 1, 5, 7,
      2, 3, 3, 5, 6, 5, 1, 1, 1, 1, 1, 1, 3, 3, 3,
      13, 14, NO_FAULT, 12, 12, 0, 3, 3, 1, 2, 1, 1, 2,
      3, 9, 8, 9, 3};
    for (int i = 0; i < texts.length; i++) {
      int due = places[i] == NO_FAULT ? 0 : -100 - places[i];
      Due.due("frame \"" + texts[i] + "\"", Due.frame(x, texts[i]), due);
      Due.due("frame \"" + texts[i] + "\", tape empty", x.count(4), 0);
    }
    Due.due("p11", Due.frame(x, "p11"), 1);
    Due.due("frames behind faults", x.count(1), 2);
  }

  private static final int NO_FAULT = -1;

  private static void framesFull() {
    PhraseMoods x = Due.small();
    for (int i = 0; i < 5; i++) {
      Due.due("frame " + i, Due.frame(x, "p0"), i);
    }
    Due.due("a 6th frame with a fault", Due.frame(x, "p0q"), -102);
    Due.due("a 6th frame", Due.frame(x, "p0"), -4);
    Due.due("a 6th frame, tape empty", x.count(4), 0);
    Due.due("five frames", x.count(1), 5);
    Due.due("hole of a 6th frame", x.hole(5, 0, 0), -2);
  }

  private static void tellsOfWords() {
    PhraseMoods x = new PhraseMoods();
    Due.word(x, "stem", 4, 3, 2);
    int[] told = {4, 3, 2, 4};
    for (int what = 0; what < 4; what++) {
      Due.due("told(0, " + what + ")", x.told(0, what), told[what]);
    }
    Due.due("told what -1", x.told(0, -1), -2);
    Due.due("told what 4", x.told(0, 4), -2);
    Due.due("told word -1", x.told(-1, 0), -2);
    Due.due("told word 1", x.told(1, 0), -2);
    Due.due("told word 20", x.told(20, 0), -2);
    Due.due("told word most", x.told(Integer.MAX_VALUE, 0), -2);
  }

  private static void takesWords() {
    PhraseMoods x = Due.small();
    // By word of small(): its KIND and those that it is under.
    String[] taken = {"0", "01", "01", "02", "013", "014", "025"};
    // CASE 1, NUMBER 1, its GENDER, MOOD 1: and, gatos, lopos, cani, anum, beloso -> bel+os+o, podee.
    int[] sizes = {3, 5, 5, 4, 4, 6, 5};
    for (int w = 0; w < 7; w++) {
      for (int k = 0; k < 6; k++) {
        boolean isTaken = taken[w].indexOf((char) ('0' + k)) >= 0;
        Due.due("taken(" + w + ", " + k + ")", x.taken(w, k), isTaken ? sizes[w] : -13);
      }
      Due.due("taken k -1", x.taken(w, -1), -2);
      Due.due("taken k 6", x.taken(w, 6), -2);
    }
    Due.due("taken word 7", x.taken(7, 0), -2);
    Due.due("taken word -1", x.taken(-1, 0), -2);
    // By NUMBER 1 and, of a verb, MOOD 1, whatever its GENDER.
    for (int gender = 0; gender < 3; gender++) {
      PhraseMoods z = new PhraseMoods();
      Due.ending(z, "xyz", 0, 1, 1);
      Due.word(z, "b", 2, 0, gender);
      Due.word(z, "b", 5, 0, gender);
      Due.word(z, "b", 4, 0, gender);
      for (int w = 0; w < 3; w++) {
        Due.due("taken of gender " + gender, z.taken(w, 0), w == 0 ? 4 : 5);
      }
    }
    PhraseMoods y = new PhraseMoods();
    Due.ending(y, "o", 0, 1, 1);
    Due.ending(y, "kk", 0, 1, 0);
    Due.word(y, "b", 4, 0, 1);
    Due.due("taken by number 1", y.taken(0, 4), 2);
  }

  private static void forms() {
    PhraseMoods x = Due.small();
    Due.dueText("plain", Due.form(x, 0, Due.by(3, 1, 2, 3)), "and");
    Due.dueText("noun 0 0", Due.form(x, 1, Due.by(0, 0, 0, 0)), "gat");
    Due.dueText("noun 0 1", Due.form(x, 1, Due.by(0, 1, 0, 0)), "gats");
    Due.dueText("noun 1 0", Due.form(x, 1, Due.by(1, 0, 0, 0)), "gatum");
    Due.dueText("noun 1 1", Due.form(x, 1, Due.by(1, 1, 0, 2)), "gatos");
    Due.dueText("noun's last vowel goes", Due.form(x, 2, Due.by(1, 0, 0, 0)), "lopum");
    Due.dueText("a vowel ahead of none stays", Due.form(x, 2, Due.by(2, 0, 0, 0)), "lope");
    Due.dueText("a vowel ahead of an s stays", Due.form(x, 2, Due.by(0, 1, 0, 0)), "lopes");
    Due.dueText("name, number 1", Due.form(x, 4, Due.by(0, 1, 0, 0)), "ana");
    Due.dueText("name, case 1", Due.form(x, 4, Due.by(1, 1, 0, 0)), "anum");
    Due.dueText("verb, mood 0", Due.form(x, 3, Due.by(3, 0, 2, 0)), "cana");
    Due.dueText("verb, number 1", Due.form(x, 3, Due.by(0, 1, 0, 0)), "canan");
    Due.dueText("verb, mood 2", Due.form(x, 3, Due.by(0, 0, 0, 2)), "caneta");
    Due.dueText("verb, mood 1", Due.form(x, 3, Due.by(0, 0, 0, 1)), "cani");
    Due.dueText("modal, mood 0", Due.form(x, 6, Due.by(0, 1, 0, 0)), "podan");
    Due.dueText("modal, mood 2", Due.form(x, 6, Due.by(0, 0, 0, 2)), "podetaa");
    Due.dueText("modal, mood 3", Due.form(x, 6, Due.by(0, 0, 0, 3)), "podee");
    Due.dueText("fitting, gender 0", Due.form(x, 5, Due.by(0, 0, 0, 0)), "belo");
    Due.dueText("fitting, gender 1", Due.form(x, 5, Due.by(0, 1, 1, 0)), "belsa");
    Due.dueText("fitting, gender 2", Due.form(x, 5, Due.by(1, 1, 2, 3)), "belose");
    Due.due("form letter", x.form(1, 0, 2), 't');
    Due.due("form behind", x.form(1, 0, 3), -12);
    Due.due("form -2", x.form(1, 0, -2), -12);
    Due.due("form most", x.form(1, 0, Integer.MAX_VALUE), -12);
    Due.due("form least", x.form(1, 0, Integer.MIN_VALUE), -12);
    Due.due("form by -1", x.form(1, -1, 99), -2);
    Due.due("form by 96", x.form(1, 96, 0), -2);
    Due.due("form by 95", x.form(1, 95, -1), 3);
    Due.due("form of word 7", x.form(7, 0, 0), -2);
    Due.due("form of word -1", x.form(-1, 0, 0), -2);
    longForms();
    vowels();
  }

  private static void longForms() {
    PhraseMoods x = new PhraseMoods();
    Due.ending(x, "xyz", 0, 1, 1);
    Due.word(x, "stemms", 4, 0, 0);
    Due.word(x, "stemms", 5, 0, 0);
    Due.dueText("longest fitting", Due.form(x, 0, Due.by(1, 1, 2, 0)), "stemmsxyze");
    Due.dueText("longest modal", Due.form(x, 1, Due.by(0, 1, 0, 1)), "stemmsxyzz");
    // A fitting one of a vowel alone: its own goes by the ending's, the ending's by the gender's.
    PhraseMoods y = new PhraseMoods();
    Due.ending(y, "e", 2, 0, 0);
    Due.word(y, "a", 4, 2, 0);
    Due.dueText("vowels go", Due.form(y, 0, Due.by(0, 0, 1, 0)), "a");
  }

  private static void vowels() {
    for (char first = 'a'; first <= 'z'; first++) {
      PhraseMoods x = new PhraseMoods();
      Due.word(x, "k" + first, 1, 0, 0);
      for (char second : new char[] {'a', 'e', 'i', 'o', 'u', 'y', 'b', 'z'}) {
        Due.ending(x, second + "t", 0, 0, 0);
        boolean both = "aeiou".indexOf(first) >= 0 && "aeiou".indexOf(second) >= 0;
        Due.dueText("joined", Due.form(x, 0, 0), (both ? "k" : "k" + first) + second + "t");
      }
    }
  }

  private static void holes() {
    PhraseMoods x = Due.small();
    Due.frame(x, "f21 n23 v2 p0 n10");
    int[][] due = {{2, 2, 1, -1, 1}, {0, 2, 3, -1, 3}, {1, 2, -1, -1, 2}, {3, -1, -1, 0, 1}, {0, 1, 0, -1, 3}};
    for (int i = 0; i < 5; i++) {
      for (int what = 0; what < 5; what++) {
        Due.due("hole(0, " + i + ", " + what + ")", x.hole(0, i, what), due[i][what]);
      }
    }
    Due.due("hole 5", x.hole(0, 5, 0), -12);
    Due.due("hole -1", x.hole(0, -1, 0), -12);
    Due.due("hole most", x.hole(0, Integer.MAX_VALUE, 0), -12);
    Due.due("hole what 5", x.hole(0, 9, 5), -2);
    Due.due("hole what -1", x.hole(0, 0, -1), -2);
    Due.due("hole frame 1", x.hole(1, 9, 0), -2);
    Due.due("hole frame -1", x.hole(-1, 0, 0), -2);
    Due.word(x, "neu", 3, 0, 0);
    Due.due("one more for n", x.hole(0, 1, 4), 4);
    PhraseMoods y = new PhraseMoods();
    Due.frame(y, "n00");
    Due.due("none for n", y.hole(0, 0, 4), 0);
  }

  private static void counts() {
    PhraseMoods x = Due.small();
    Due.frame(x, "n00v0");
    Due.text(x, "a b c");
    x.desk(0, 0);
    Due.feed(x, "tape");
    int[] due = {7, 1, 3, 8, 4};
    for (int what = 0; what < 5; what++) {
      Due.due("count(" + what + ")", x.count(what), due[what]);
    }
    Due.due("count(-1)", x.count(-1), -2);
    Due.due("count(5)", x.count(5), -2);
  }
}
