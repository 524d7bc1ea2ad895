/** Promises 10 to 14: THE DESK, what is said, and how long it is spoken. */
final class SaidTest {
  public static void main(String[] args) {
    desks();
    desksWithoutWords();
    chooses();
    numbers();
    says();
    namesAgree();
    saysByTablesOfNow();
    speaks();
    Due.end();
  }

  private static void desks() {
    PhraseMoods x = Due.small();
    Due.frame(x, "n00v0");
    Due.frame(x, "f00n00p0n10v1v0");
    Due.due("desk of no frame", x.desk(2, 0), -2);
    Due.due("desk of frame -1", x.desk(-1, 0), -2);
    Due.due("desk by mood -1", x.desk(0, -1), -2);
    Due.due("desk by mood 4", x.desk(0, 4), -2);
    Due.due("no desk yet", x.number(0, 0), -3);
    Due.due("desk(1, 3)", x.desk(1, 3), 6);
    Due.dueText("the least words", Due.said(x), "bela gat and gat cani cani");
    x.number(0, 1);
    x.number(1, 1);
    x.number(2, 1);
    Due.due("a refused desk", x.desk(0, 4), -2);
    Due.dueText("stays by a refused desk", Due.said(x), "belsa gats and gats cani cani");
    Due.due("desk(0, 0)", x.desk(0, 0), 2);
    Due.dueText("numbers are 0 again", Due.said(x), "gat cana");
    for (int g = 0; g < 3; g++) {
      Due.due("number of group " + g, x.number(g, 0), 0);
    }
    x.choose(0, 2);
    Due.due("desk again", x.desk(0, 0), 2);
    Due.dueText("the least words again", Due.said(x), "gat cana");
  }

  private static void desksWithoutWords() {
    PhraseMoods x = new PhraseMoods();
    Due.word(x, "ka", 1, 0, 0);
    Due.frame(x, "n00v0");
    Due.due("desk without a verb", x.desk(0, 0), 2);
    Due.due("not filled", x.said(-1), 0);
    Due.due("not filled, byte 0", x.said(0), -12);
    Due.due("not filled, count", x.count(3), 0);
    Due.due("not filled, spoken", x.spoken(1), 0);
    Due.word(x, "vo", 2, 0, 0);
    Due.due("a word that comes later", x.said(-1), 0);
    Due.due("nothing was there", x.choose(1, 1), -1);
    Due.dueText("filled", Due.said(x), "ka vo");
    Due.due("it was there", x.choose(1, 1), 1);
  }

  private static void chooses() {
    PhraseMoods x = Due.small();
    Due.frame(x, "f00n00v0p0");
    Due.due("choose of no word, no frame", x.choose(0, 7), -2);
    Due.due("choose of no frame", x.choose(9, 1), -3);
    x.desk(0, 0);
    Due.due("choose NONE", x.choose(0, -1), -2);
    Due.due("choose word 7", x.choose(9, 7), -2);
    Due.due("choose hole 4", x.choose(4, 0), -12);
    Due.due("choose hole -1", x.choose(-1, 0), -12);
    Due.due("choose hole least", x.choose(Integer.MIN_VALUE, 0), -12);
    // By hole: f takes the fitting one; n a noun or a name; v a verb or a modal; p its own.
    String[] takes = {"5", "124", "36", "0"};
    int[] there = {5, 1, 3, 0};
    for (int i = 0; i < 4; i++) {
      for (int w = 0; w < 7; w++) {
        boolean can = takes[i].indexOf((char) ('0' + w)) >= 0;
        Due.due("choose(" + i + ", " + w + ")", x.choose(i, w), can ? there[i] : -13);
        there[i] = can ? w : there[i];
      }
    }
    Due.dueText("chosen", Due.said(x), "bela ana poda and");
    Due.word(x, "or", 0, 0, 0);
    Due.due("another plain one", x.choose(3, 7), -13);
  }

  private static void numbers() {
    PhraseMoods x = Due.small();
    Due.frame(x, "n00v0n10v1");
    Due.due("number bad, no frame", x.number(3, 0), -2);
    Due.due("number, no frame", x.number(0, 1), -3);
    x.desk(0, 0);
    Due.due("number group -1", x.number(-1, 0), -2);
    Due.due("number group 3", x.number(3, 0), -2);
    Due.due("number n -1", x.number(0, -1), -2);
    Due.due("number n 2", x.number(0, 2), -2);
    for (int g = 0; g < 3; g++) {
      Due.due("number(g, 1)", x.number(g, 1), 0);
      Due.due("number(g, 1) again", x.number(g, 1), 1);
    }
    Due.dueText("both", Due.said(x), "gats canan gats canan");
    Due.due("number(0, 0)", x.number(0, 0), 1);
    Due.dueText("group 1", Due.said(x), "gat cana gats canan");
    x.choose(2, 4);
    Due.due("a name's group was", x.number(1, 1), 1);
  }

  private static void says() {
    PhraseMoods x = Due.small();
    Due.frame(x, "f01n00v0");
    Due.due("no desk", x.said(-1), 0);
    Due.due("no desk, byte", x.said(0), -12);
    x.desk(0, 2);
    Due.due("size", x.said(-1), 17);
    Due.dueText("each by its case", Due.said(x), "beluma gat caneta");
    Due.due("blank", x.said(6), 32);
    Due.due("behind", x.said(17), -12);
    Due.due("-2", x.said(-2), -12);
    Due.due("most", x.said(Integer.MAX_VALUE), -12);
    Due.due("least", x.said(Integer.MIN_VALUE), -12);
    x.choose(1, 2);
    x.number(0, 1);
    x.choose(2, 6);
    Due.dueText("gender and number of the n", Due.said(x), "beloso lopes podee");
  }

  private static void namesAgree() {
    PhraseMoods x = Due.small();
    Due.frame(x, "v0f00n00v1n11");
    x.desk(0, 0);
    x.number(0, 1);
    x.number(1, 1);
    Due.dueText("nouns", Due.said(x), "canan belsa gats canan gatos");
    x.choose(2, 4);
    Due.dueText("a name's group is of number 0", Due.said(x), "cana bela ana canan gatos");
    x.choose(4, 4);
    Due.dueText("both names", Due.said(x), "cana bela ana cana anum");
    x.choose(2, 1);
    Due.dueText("the number is there again", Due.said(x), "canan belsa gats cana anum");
  }

  private static void saysByTablesOfNow() {
    PhraseMoods x = Due.small();
    Due.frame(x, "n00v0");
    x.desk(0, 1);
    Due.dueText("no ending", Due.said(x), "gat cani");
    Due.ending(x, "em", 1, 1, 0);
    Due.dueText("an ending of later", Due.said(x), "gat canem");
    PhraseMoods y = new PhraseMoods();
    Due.ending(y, "xyz", 0, 1, 1);
    Due.word(y, "stemms", 1, 0, 0);
    Due.word(y, "stemms", 5, 0, 0);
    Due.frame(y, "n01v0v0v0v0v0");
    y.desk(0, 1);
    y.number(0, 1);
    String modal = " stemmsxyzz";
    Due.dueText("the longest", Due.said(y), "stemmsxyz" + modal + modal + modal + modal + modal);
    Due.due("the longest, count", y.count(3), 64);
  }

  private static float timeOf(String line, int tempo) {
    float t = 0f;
    for (int i = 0; i < line.length(); i++) {
      char c = line.charAt(i);
      float x = "aeiou".indexOf(c) >= 0 ? 7f : c == ' ' ? 9f : 4f;
      if (i > 0 && line.charAt(i - 1) == c) {
        x *= 0.75f;
      }
      t += x / tempo;
    }
    return t;
  }

  private static void speaksAtEachTempo(int noun) {
    PhraseMoods x = Due.small();
    Due.frame(x, "n00v0p0f00");
    x.desk(0, 2);
    x.choose(0, noun);
    x.choose(1, noun % 2 == 0 ? 6 : 3);
    x.number(0, noun >> 1 & 1);
    String line = Due.said(x);
    for (int tempo = 1; tempo <= 99; tempo++) {
      Due.due("spoken(" + tempo + ") of " + line, x.spoken(tempo), Float.floatToIntBits(timeOf(line, tempo)));
    }
  }

  private static void speaks() {
    PhraseMoods x = Due.small();
    Due.due("spoken, nothing", x.spoken(1), 0);
    Due.due("spoken tempo 0", x.spoken(0), -2);
    Due.due("spoken tempo 100", x.spoken(100), -2);
    Due.due("spoken tempo -1", x.spoken(-1), -2);
    Due.word(x, "aabbbc", 1, 2, 0);
    Due.word(x, "z", 1, 2, 0);
    Due.word(x, "a", 1, 2, 0);
    Due.frame(x, "n00");
    x.desk(0, 0);
    x.choose(0, 7);
    // 7 + 5.25 + 4 + 3 + 3 + 4 = 26.25
    Due.due("doubles at tempo 1", x.spoken(1), Float.floatToIntBits(26.25f));
    x.choose(0, 8);
    Due.due("4 by 1", x.spoken(1), Float.floatToIntBits(4f));
    Due.due("4 by 99", x.spoken(99), Float.floatToIntBits(4f / 99f));
    Due.due("4 by 4", x.spoken(4), Float.floatToIntBits(1f));
    x.choose(0, 9);
    Due.due("7 by 2", x.spoken(2), Float.floatToIntBits(3.5f));
    for (int noun : new int[] {1, 2, 4}) {
      speaksAtEachTempo(noun);
    }
    PhraseMoods y = new PhraseMoods();
    Due.word(y, "aeiaei", 1, 0, 0);
    Due.word(y, "aeiaei", 2, 0, 0);
    Due.frame(y, "n00v0v0v0v0v0");
    y.desk(0, 0);
    Due.due("the longest time", y.spoken(1), Float.floatToIntBits(6 * 6 * 7 + 5 * 9));
  }
}
