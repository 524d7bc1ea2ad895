/** Promises 24 to 26: what a SHEET tells of what is said, AN IMAGE and back. */
final class ToldTest {
  public static void main(String[] args) {
    refuses();
    first();
    moods();
    numbers();
    images();
    imagesOfTheDesk();
    traysStay();
    Due.end();
  }

  private static void sheet(PhraseMoods x, int sheet, int sort, int... items) {
    x.sheet(sheet, sort, items.length);
    for (int i = 0; i < items.length; i++) {
      x.put(sheet, i, items[i]);
    }
  }

  private static void toldIs(String call, PhraseMoods x, int sheet, int first, int moods, int numbers) {
    Due.due(call + ": tells what 0", x.tells(sheet, 0), first);
    Due.due(call + ": tells what 1", x.tells(sheet, 1), moods);
    Due.due(call + ": tells what 2", x.tells(sheet, 2), numbers);
  }

  private static void refuses() {
    PhraseMoods x = Due.small();
    Due.frame(x, "n00v0");
    Due.due("tells sheet -1", x.tells(-1, 0), -2);
    Due.due("tells sheet 4", x.tells(4, 0), -2);
    Due.due("tells what -1", x.tells(0, -1), -2);
    Due.due("tells what 3", x.tells(0, 3), -2);
    Due.due("tells missing", x.tells(0, 0), -11);
    x.sheet(0, 0, 7);
    Due.due("tells of 7", x.tells(0, 0), -2);
    x.sheet(0, 1, 6);
    Due.due("tells, no frame", x.tells(0, 0), -3);
    x.desk(0, 0);
    Due.due("tells of 6", x.tells(0, 0), 0);
    PhraseMoods y = new PhraseMoods();
    Due.word(y, "ka", 1, 0, 0);
    Due.frame(y, "n00v0");
    y.desk(0, 0);
    y.sheet(0, 0, 2);
    Due.due("tells, not filled", y.tells(0, 1), -3);
  }

  private static void first() {
    PhraseMoods x = Due.small();
    Due.frame(x, "n00v0");
    x.desk(0, 0);
    // gat cana
    sheet(x, 0, 0);
    toldIs("nothing", x, 0, 0, 0, 0);
    sheet(x, 0, 0, 3);
    toldIs("one too few", x, 0, 1, 0, 0);
    sheet(x, 0, 0, 3, 4, 1);
    toldIs("one too many", x, 0, 2, 0, 0);
    sheet(x, 0, 0, 3, 4, 0);
    toldIs("a 0 too many", x, 0, 2, 0, 0);
    sheet(x, 0, 0, 2, 4);
    Due.due("the first is otherwise", x.tells(0, 0), 0);
    sheet(x, 0, 0, 3, 5);
    Due.due("the second is otherwise", x.tells(0, 0), 1);
    sheet(x, 0, 1, 3, 5, 7);
    Due.due("the second ahead of the third", x.tells(0, 0), 1);
    sheet(x, 0, 1, 3, 4);
    Due.due("all are so", x.tells(0, 0), -1);
    sheet(x, 0, 1, 3 + 65536, 4);
    Due.due("an int", x.tells(0, 0), 0);
    sheet(x, 0, 0, 3 + 65536, 4);
    Due.due("a short", x.tells(0, 0), -1);
    Due.dueText("what is said stays", Due.said(x), "gat cana");
  }

  private static void moods() {
    PhraseMoods x = Due.small();
    Due.frame(x, "n00v0");
    x.desk(0, 1);
    // cana, cani, caneta, cani
    sheet(x, 0, 0, 3, 4);
    Due.due("moods 0, 1, 3", x.tells(0, 1), 0b1011);
    sheet(x, 0, 0, 3, 6);
    Due.due("mood 2", x.tells(0, 1), 0b0100);
    Due.due("mood 2 isn't the desk's", x.tells(0, 0), 1);
    sheet(x, 0, 0, 4, 4);
    Due.due("no mood", x.tells(0, 1), 0);
    x.number(0, 1);
    Due.due("by the desk's number", x.tells(0, 1), 0b1110);
    Due.dueText("the desk's mood stays", Due.said(x), "gats cani");
  }

  private static void numbers() {
    PhraseMoods x = Due.small();
    Due.frame(x, "n10v1n20");
    x.desk(0, 0);
    x.number(1, 1);
    sheet(x, 0, 1, 4, 5, 3);
    toldIs("group 1 of two", x, 0, -1, 0b0001, 1 << 2 | 1 << 3);
    sheet(x, 0, 1, 3, 4, 4);
    Due.due("group 2 of two", x.tells(0, 2), 1 << 4 | 1 << 5);
    sheet(x, 0, 1, 4, 5, 4);
    Due.due("both", x.tells(0, 2), 1 << 6 | 1 << 7);
    x.choose(0, 4);
    sheet(x, 0, 1, 3, 4, 3);
    Due.due("a name's number does not matter", x.tells(0, 2), 0b00001111);
    Due.dueText("the desk's numbers stay", Due.said(x), "ana cana gat");
    PhraseMoods y = Due.small();
    Due.frame(y, "p0");
    y.desk(0, 3);
    sheet(y, 2, 0, 3);
    toldIs("a plain one", y, 2, -1, 15, 255);
  }

  private static void images() {
    PhraseMoods x = Due.small();
    Due.frame(x, "n00v0");
    Due.text(x, "gat cana");
    Due.due("back without an image", x.back(), -3);
    Due.due("image", x.image(), 7);
    Due.word(x, "new", 0, 0, 0);
    Due.frame(x, "p7");
    Due.ending(x, "zz", 0, 0, 0);
    Due.text(x, "a b c");
    x.sheet(0, 0, 1);
    x.put(0, 0, 9);
    Due.feed(x, "tape");
    Due.due("back", x.back(), 7);
    Due.due("words", x.count(0), 7);
    Due.due("frames", x.count(1), 1);
    Due.due("text", x.count(2), 2);
    Due.due("tape stays", x.count(4), 4);
    Due.due("sheet stays", x.tells(0, 0), -3);
    Due.dueText("endings", Due.form(x, 1, 0), "gat");
    Due.due("readings", x.readings(0), 1);
    Due.due("the word is none any more", x.told(7, 0), -2);
    x.word(1, 0, 0);
    Due.dueText("another word has its number", Due.form(x, 7, 4), "tapes");
    Due.due("back again", x.back(), 7);
    Due.word(x, "more", 0, 0, 0);
    Due.due("another image", x.image(), 8);
    Due.word(x, "most", 0, 0, 0);
    Due.due("back to it", x.back(), 8);
    Due.dueText("word 7", Due.form(x, 7, 0), "more");
    PhraseMoods y = new PhraseMoods();
    Due.due("an image of nothing", y.image(), 0);
    Due.word(y, "a", 0, 0, 0);
    Due.frame(y, "p0");
    y.desk(0, 0);
    Due.due("back to nothing", y.back(), 0);
    Due.due("no desk", y.number(0, 0), -3);
    Due.due("no frame", y.drawn(0, 0), -3);
  }

  private static void imagesOfTheDesk() {
    PhraseMoods x = Due.small();
    Due.frame(x, "n00v0");
    Due.frame(x, "f00n00");
    x.desk(0, 2);
    x.choose(0, 2);
    x.number(0, 1);
    x.image();
    String before = Due.said(x);
    x.choose(0, 1);
    x.number(0, 0);
    x.number(2, 1);
    x.desk(1, 0);
    Due.due("back", x.back(), 7);
    Due.dueText("the desk as it was", Due.said(x), before);
    Due.due("number as it was", x.number(2, 0), 0);
    Due.due("word as it was", x.choose(0, 1), 2);
    Due.due("number as it was", x.number(0, 0), 1);
    x.back();
    Due.dueText("the image stays as it was", Due.said(x), before);
  }

  private static void traysStay() {
    PhraseMoods x = Due.small();
    x.image();
    Due.word(x, "new", 0, 0, 0);
    x.tray(1, 0, 2);
    x.lays(1, 0, 7);
    x.lays(1, 1, 3);
    x.sheet(2, 1, 1);
    x.back();
    Due.due("a word that is none any more", x.laid(1, 0), 7);
    Due.due("a word that is", x.laid(1, 1), 3);
    Due.due("it can't be laid again", x.lays(1, 1, 7), -2);
    Due.due("like it", x.like(0, 1), 2);
    Due.due("like it, laid", x.laid(0, 0), 7);
    Due.due("the sheet stays", x.put(2, 0, 1), 1);
  }
}
