/**
 * The boundary cases of promises 24 to 27, and of what the terms say of TOLD, AN IMAGE and how many there are: a test for
 * each sentence, named by its promise. What stands in quotes are the document's words.
 */
final class BoundsOfToldTest {
  private static final int MIN = Integer.MIN_VALUE, MAX = Integer.MAX_VALUE;

  public static void main(String[] args) {
    Due.runAll(BoundsOfToldTest.class);
  }

  private static void sheet(PhraseMoods x, int sort, int... items) {
    x.sheet(0, sort, items.length);
    for (int i = 0; i < items.length; i++) {
      x.put(0, i, items[i]);
    }
  }

  /** Says "gat cana"; by MOOD 2 "gat caneta", by 1 and 3 "gat cani"; by NUMBER 1 "gats canan". */
  private static PhraseMoods saying() {
    PhraseMoods x = Due.small();
    Due.frame(x, "n00v0");
    x.desk(0, 0);
    return x;
  }

  // ---- promise 24: tells

  static void p24SheetOutside0To3IsBad() {
    PhraseMoods x = saying();
    for (int sheet : new int[] {-1, 4, MIN, MAX}) {
      Due.due("tells(" + sheet + ", 0)", x.tells(sheet, 0), -2);
    }
    for (int sheet = 0; sheet < 4; sheet++) {
      x.sheet(sheet, 0, 1);
      Due.due("tells(" + sheet + ", 0)", x.tells(sheet, 0), 0);
    }
  }

  static void p24WhatOutside0To2IsBad() {
    PhraseMoods x = saying();
    sheet(x, 0, 3, 4);
    for (int what : new int[] {-1, 3, MIN, MAX}) {
      Due.due("tells(0, " + what + ")", x.tells(0, what), -2);
    }
  }

  static void p24MissingSheet() {
    PhraseMoods x = saying();
    for (int what = 0; what < 3; what++) {
      Due.due("tells(0, " + what + ")", x.tells(0, what), -11);
    }
  }

  static void p24BadIsAheadOfMissing() {
    PhraseMoods x = saying();
    Due.due("tells(0, 3)", x.tells(0, 3), -2);
    Due.due("tells(0, -1)", x.tells(0, -1), -2);
  }

  static void p24MissingIsAheadOfState() {
    PhraseMoods x = new PhraseMoods();
    Due.due("no frame", x.tells(0, 0), -11);
  }

  // "BAD: it tells more than 6"
  static void p24SheetOf7IsBad() {
    PhraseMoods x = saying();
    for (int n : new int[] {7, 8, 40}) {
      x.sheet(0, 0, n);
      x.sheet(1, 1, n);
      for (int what = 0; what < 3; what++) {
        Due.due("shorts, " + n, x.tells(0, what), -2);
        Due.due("ints, " + n, x.tells(1, what), -2);
      }
    }
  }

  static void p24SheetOf6() {
    PhraseMoods x = Due.small();
    Due.frame(x, "n00v0p0p0p0p0");
    x.desk(0, 0);
    sheet(x, 0, 3, 4, 3, 3, 3, 3);
    Due.due("all six", x.tells(0, 0), -1);
    sheet(x, 0, 3, 4, 3, 3, 3, 4);
    Due.due("but the last", x.tells(0, 0), 5);
  }

  // "BAD: it tells more than 6; STATE"
  static void p24MoreThan6IsAheadOfState() {
    PhraseMoods x = new PhraseMoods();
    x.sheet(0, 0, 7);
    Due.due("no frame", x.tells(0, 0), -2);
    x.sheet(0, 0, 6);
    Due.due("no frame", x.tells(0, 0), -3);
  }

  // "STATE: no FRAME"
  static void p24NoFrameIsState() {
    PhraseMoods x = Due.small();
    Due.frame(x, "n00v0");
    x.sheet(0, 0, 0);
    for (int what = 0; what < 3; what++) {
      Due.due("tells(0, " + what + ")", x.tells(0, what), -3);
    }
  }

  // "or it isn't all FILLED"
  static void p24NotAllFilledIsState() {
    for (String f : new String[] {"n00v0", "v0n00"}) {
      PhraseMoods x = new PhraseMoods();
      Due.word(x, "k", 1, 0, 0);
      Due.frame(x, f);
      x.desk(0, 0);
      x.sheet(0, 0, 2);
      for (int what = 0; what < 3; what++) {
        Due.due("tells(0, " + what + ") of " + f, x.tells(0, what), -3);
      }
      Due.word(x, "v", 2, 0, 0);
      x.choose(f.indexOf('v') == 0 ? 0 : 1, 1);
      Due.due("filled", x.tells(0, 0), 0);
    }
  }

  // "the first that is otherwise"
  static void p24FirstThatIsOtherwise() {
    PhraseMoods x = saying();
    sheet(x, 0, 2, 5);
    Due.due("both", x.tells(0, 0), 0);
    sheet(x, 0, 3, 5);
    Due.due("the second", x.tells(0, 0), 1);
    sheet(x, 0, 4, 4);
    Due.due("the first", x.tells(0, 0), 0);
  }

  // "one too many"
  static void p24OneTooMany() {
    PhraseMoods x = saying();
    sheet(x, 0, 3, 4, 1);
    Due.due("a third", x.tells(0, 0), 2);
    sheet(x, 0, 3, 4, 0);
    Due.due("a third, 0", x.tells(0, 0), 2);
    sheet(x, 0, 3, 4, 0, 0, 0, 0);
    Due.due("four more", x.tells(0, 0), 2);
    Due.due("by no mood", x.tells(0, 1), 0);
    Due.due("by no number", x.tells(0, 2), 0);
  }

  // "too few"
  static void p24TooFew() {
    PhraseMoods x = saying();
    sheet(x, 0, 3);
    Due.due("one", x.tells(0, 0), 1);
    Due.due("by no mood", x.tells(0, 1), 0);
    Due.due("by no number", x.tells(0, 2), 0);
    sheet(x, 0);
    Due.due("none", x.tells(0, 0), 0);
    Due.due("by no mood", x.tells(0, 1), 0);
    Due.due("by no number", x.tells(0, 2), 0);
  }

  // "NONE"
  static void p24NoneIsOtherwise() {
    PhraseMoods x = saying();
    sheet(x, 0, 3, 4);
    Due.due("shorts", x.tells(0, 0), -1);
    sheet(x, 1, 3, 4);
    Due.due("ints", x.tells(0, 0), -1);
  }

  // "how long (in letters)": a number below 0 or too large is otherwise
  static void p24NumbersThatNoWordHas() {
    PhraseMoods x = saying();
    for (int v : new int[] {0, -1, -3, 11, MIN, MAX}) {
      sheet(x, 1, v, 4);
      Due.due("first " + v, x.tells(0, 0), 0);
      sheet(x, 1, 3, v);
      Due.due("second " + v, x.tells(0, 0), 1);
    }
  }

  // "MOODS (bits) by which, in MOOD's place, all would be so"
  static void p24MoodsAsBits() {
    PhraseMoods x = new PhraseMoods();
    for (int mood = 0; mood < 4; mood++) {
      Due.ending(x, "rst".substring(0, mood), 1, mood, 0);
    }
    Due.word(x, "k", 1, 0, 0);
    Due.word(x, "v", 2, 1, 0);
    Due.frame(x, "n00v0");
    for (int mood = 0; mood < 4; mood++) {
      x.desk(0, mood);
      for (int told = 0; told < 4; told++) {
        sheet(x, 0, 1, 1 + told);
        Due.due("mood " + told + " at a desk of " + mood, x.tells(0, 1), 1 << told);
        Due.due("otherwise", x.tells(0, 0), told == mood ? -1 : 1);
      }
    }
    sheet(x, 0, 1, 5);
    Due.due("no mood", x.tells(0, 1), 0);
    sheet(x, 0, 2, 1);
    Due.due("the noun is otherwise by each mood", x.tells(0, 1), 0);
  }

  static void p24AllMoods() {
    PhraseMoods x = Due.small();
    Due.frame(x, "p0");
    x.desk(0, 1);
    sheet(x, 0, 3);
    Due.due("all moods", x.tells(0, 1), 15);
    Due.due("all numbers", x.tells(0, 2), 255);
    sheet(x, 0, 4);
    Due.due("no mood", x.tells(0, 1), 0);
    Due.due("no numbers", x.tells(0, 2), 0);
  }

  // The NUMBERS stay as they are on THE DESK, where MOODS are asked.
  static void p24MoodsByTheNumbersOfTheDesk() {
    PhraseMoods x = saying();
    x.number(0, 1);
    sheet(x, 0, 4, 5);
    Due.due("gats canan", x.tells(0, 1), 0b0001);
    sheet(x, 0, 4, 4);
    Due.due("gats cani", x.tells(0, 1), 0b1110);
    sheet(x, 0, 3, 4);
    Due.due("gat cana, gat cani", x.tells(0, 1), 0);
  }

  // "NUMBERS (bits 0 .. 7: of GROUPS 0, 1, 2 as bits) likewise"; "GROUP 0 is bit 0"
  static void p24NumbersAsBits() {
    PhraseMoods x = new PhraseMoods();
    Due.ending(x, "s", 0, 0, 1);
    Due.word(x, "k", 1, 0, 0);
    Due.frame(x, "n00n10n20");
    x.desk(0, 0);
    for (int bits = 0; bits < 8; bits++) {
      sheet(x, 0, 1 + (bits & 1), 1 + (bits >> 1 & 1), 1 + (bits >> 2 & 1));
      Due.due("numbers " + bits, x.tells(0, 2), 1 << bits);
    }
    sheet(x, 0, 3, 1, 1);
    Due.due("no numbers", x.tells(0, 2), 0);
  }

  static void p24NumbersByTheMoodOfTheDesk() {
    PhraseMoods x = saying();
    x.desk(0, 2);
    sheet(x, 0, 3, 6);
    Due.due("gat caneta", x.tells(0, 2), 0b01010101);
    sheet(x, 0, 4, 4);
    Due.due("gats cani", x.tells(0, 2), 0b10101010);
    sheet(x, 0, 3, 4);
    Due.due("gat cana is of mood 0", x.tells(0, 2), 0);
  }

  // A GROUP that the FRAME has not, or that is a NAME's, is so by each NUMBER.
  static void p24NumbersThatDoNotMatter() {
    PhraseMoods x = Due.small();
    Due.frame(x, "n10v1");
    x.desk(0, 0);
    sheet(x, 0, 3, 4);
    Due.due("group 1 of number 0", x.tells(0, 2), 0b00110011);
    sheet(x, 0, 4, 5);
    Due.due("group 1 of number 1", x.tells(0, 2), 0b11001100);
    x.choose(0, 4);
    sheet(x, 0, 3, 4);
    Due.due("a name", x.tells(0, 2), 255);
  }

  static void p24DeskStays() {
    PhraseMoods x = saying();
    x.number(0, 1);
    sheet(x, 0, 3, 6);
    for (int what = 0; what < 3; what++) {
      x.tells(0, what);
      Due.dueText("said", Due.said(x), "gats canan");
    }
    Due.due("number", x.number(0, 1), 1);
  }

  // ---- promise 25: image

  // "how many WORDS"
  static void p25ImageOfNoWords() {
    PhraseMoods x = new PhraseMoods();
    Due.due("image", x.image(), 0);
    Due.word(x, "k", 0, 0, 0);
    Due.frame(x, "p0");
    Due.ending(x, "s", 0, 0, 0);
    Due.text(x, "k");
    x.desk(0, 0);
    Due.due("back", x.back(), 0);
    Due.due("count(0)", x.count(0), 0);
    Due.due("count(1)", x.count(1), 0);
    Due.due("count(2)", x.count(2), 0);
    Due.due("no frame on the desk", x.number(0, 0), -3);
    Due.due("the ending", x.ending(0, 0, 0), 0);
  }

  static void p25ImageOf20Words() {
    PhraseMoods x = new PhraseMoods();
    for (int i = 0; i < 20; i++) {
      Due.due("image", x.image(), i);
      Due.word(x, "k", 0, 0, 0);
    }
    Due.due("image", x.image(), 20);
    Due.due("back", x.back(), 20);
  }

  static void p25NextImageTakesItsPlace() {
    PhraseMoods x = Due.small();
    Due.due("image", x.image(), 7);
    Due.word(x, "k", 0, 0, 0);
    Due.due("another", x.image(), 8);
    Due.word(x, "k", 0, 0, 0);
    Due.due("back", x.back(), 8);
    Due.due("back", x.back(), 8);
  }

  static void p25ImageChangesNothing() {
    PhraseMoods x = saying();
    x.number(0, 1);
    Due.text(x, "gat cana");
    Due.feed(x, "tape");
    x.image();
    Due.dueText("said", Due.said(x), "gats canan");
    Due.due("readings", x.readings(0), 1);
    Due.due("count(4)", x.count(4), 4);
  }

  // ---- promise 26: back

  // "STATE: there is none"
  static void p26NoImageIsState() {
    PhraseMoods x = saying();
    Due.due("back", x.back(), -3);
    Due.due("words", x.count(0), 7);
    Due.dueText("said", Due.said(x), "gat cana");
  }

  // THE IMAGE stays, so that it may be laid back again.
  static void p26BackAgainAndAgain() {
    PhraseMoods x = saying();
    x.image();
    for (int turn = 0; turn < 3; turn++) {
      Due.word(x, "k", 1, 0, 0);
      x.number(0, 1);
      x.choose(0, 7);
      Due.ending(x, "t", 0, 0, 1);
      Due.due("back", x.back(), 7);
      Due.dueText("said", Due.said(x), "gat cana");
      Due.due("the ending", x.form(1, 4, -1), 4);
      Due.dueText("the ending", Due.form(x, 1, 4), "gats");
    }
  }

  // "as in THE IMAGE": WORDS that came behind it are none any more, and those that were are as they were
  static void p26Words() {
    PhraseMoods x = Due.small();
    x.image();
    Due.word(x, "new", 5, 3, 2);
    Due.due("back", x.back(), 7);
    Due.due("count(0)", x.count(0), 7);
    Due.due("told", x.told(7, 0), -2);
    Due.due("the next one", Due.word(x, "k", 1, 2, 1), 7);
    Due.due("it is a noun", x.told(7, 0), 1);
    Due.dueText("its stem", Due.form(x, 7, 0), "k");
  }

  static void p26EndingsAreAsInTheImage() {
    PhraseMoods x = new PhraseMoods();
    for (int i = 0; i < 32; i++) {
      Due.ending(x, "rst".substring(0, i % 4), i / 8, i / 2 % 4, i % 2);
    }
    x.image();
    for (int i = 0; i < 32; i++) {
      Due.ending(x, "rst".substring(0, (i + 1) % 4), i / 8, i / 2 % 4, i % 2);
    }
    x.back();
    for (int i = 0; i < 32; i++) {
      Due.due("ending " + i, x.ending(i / 8, i / 2 % 4, i % 2), i % 4);
    }
  }

  static void p26Frames() {
    PhraseMoods x = Due.small();
    Due.frame(x, "n00v0");
    x.image();
    for (int i = 0; i < 4; i++) {
      Due.frame(x, "p0");
    }
    x.back();
    Due.due("count(1)", x.count(1), 1);
    Due.due("hole", x.hole(1, 0, 0), -2);
    Due.due("the next one", Due.frame(x, "f13n10p0"), 1);
    Due.due("its holes", x.desk(1, 0), 3);
    Due.due("the first one's holes", x.desk(0, 0), 2);
  }

  static void p26Text() {
    PhraseMoods x = Due.small();
    Due.frame(x, "n00v0");
    x.image();
    Due.text(x, "gat cana");
    x.back();
    Due.due("none", x.count(2), 0);
    Due.text(x, "gat cana");
    x.image();
    Due.text(x, "lope cani lope");
    x.back();
    Due.due("count(2)", x.count(2), 2);
    Due.due("readings", x.readings(0), 1);
  }

  static void p26DesksFrame() {
    PhraseMoods x = saying();
    Due.frame(x, "p0");
    x.image();
    x.desk(1, 0);
    x.back();
    Due.dueText("said", Due.said(x), "gat cana");
  }

  static void p26DesksMood() {
    PhraseMoods x = saying();
    x.desk(0, 2);
    x.image();
    x.desk(0, 0);
    x.back();
    Due.dueText("said", Due.said(x), "gat caneta");
  }

  static void p26DesksNumbers() {
    PhraseMoods x = saying();
    x.number(0, 1);
    x.number(2, 1);
    x.image();
    x.number(0, 0);
    x.number(1, 1);
    x.number(2, 0);
    x.back();
    Due.due("group 0", x.number(0, 1), 1);
    Due.due("group 1", x.number(1, 0), 0);
    Due.due("group 2", x.number(2, 1), 1);
  }

  static void p26DesksWords() {
    PhraseMoods x = saying();
    x.choose(0, 4);
    x.choose(1, 6);
    x.image();
    x.choose(0, 1);
    x.choose(1, 3);
    x.back();
    Due.due("hole 0", x.choose(0, 1), 4);
    Due.due("hole 1", x.choose(1, 3), 6);
  }

  static void p26DeskThatIsNotFilled() {
    PhraseMoods x = new PhraseMoods();
    Due.word(x, "k", 1, 0, 0);
    Due.frame(x, "n00v0");
    x.desk(0, 0);
    x.image();
    Due.word(x, "v", 2, 0, 0);
    x.choose(1, 1);
    x.back();
    Due.due("said", x.said(-1), 0);
    Due.due("number", x.number(0, 0), 0);
    Due.word(x, "w", 2, 0, 0);
    Due.due("nothing was there", x.choose(1, 1), -1);
  }

  // "AN IMAGE keeps all but SHEETS, TRAYS, THE TAPE"
  static void p26SheetsStay() {
    PhraseMoods x = saying();
    x.sheet(1, 0, 1);
    x.image();
    sheet(x, 0, 3, 4);
    x.sheet(1, -1, 0);
    x.back();
    Due.due("what stood there", x.tells(0, 0), -1);
    Due.due("it is missing", x.put(1, 0, 0), -11);
  }

  static void p26TapeStays() {
    PhraseMoods x = saying();
    Due.feed(x, "ab");
    x.image();
    Due.feed(x, "cd");
    x.back();
    Due.due("count(4)", x.count(4), 4);
    x.word(0, 0, 0);
    Due.dueText("what stood there", Due.form(x, 7, 0), "abcd");
  }

  static void p26TapeThatIsEmptyStays() {
    PhraseMoods x = saying();
    Due.feed(x, "ab");
    x.image();
    x.word(0, 0, 0);
    x.back();
    Due.due("count(4)", x.count(4), 0);
  }

  static void p26TraysStay() {
    PhraseMoods x = saying();
    x.tray(0, 0, 2);
    x.lays(0, 0, 1);
    x.image();
    x.lays(0, 0, 2);
    x.lays(0, 1, 3);
    x.tray(1, 4, 1);
    x.back();
    Due.due("laid(0, 0)", x.laid(0, 0), 2);
    Due.due("laid(0, 1)", x.laid(0, 1), 3);
    Due.due("laid(1, 0)", x.laid(1, 0), -1);
  }

  // "(WORDS in TRAYS stay, those that are none any more, too)"
  static void p26WordsInTraysStayThatAreNoneAnyMore() {
    PhraseMoods x = Due.small();
    x.image();
    Due.word(x, "k", 1, 0, 0);
    x.tray(0, 1, 2);
    x.lays(0, 0, 7);
    x.back();
    Due.due("laid(0, 0)", x.laid(0, 0), 7);
    Due.due("it is none", x.told(7, 0), -2);
    Due.due("it can't be laid", x.lays(0, 1, 7), -2);
    Due.due("like it", x.like(1, 0), 2);
    Due.due("laid(1, 0)", x.laid(1, 0), 7);
    // Another WORD gets its number, of a KIND that the TRAY isn't made for.
    Due.word(x, "v", 2, 0, 0);
    Due.due("laid(0, 0)", x.laid(0, 0), 7);
    Due.due("it can't be laid anew", x.lays(0, 1, 7), -16);
  }

  // ---- promise 27: count

  static void p27WhatOutside0To4IsBad() {
    PhraseMoods x = saying();
    for (int what : new int[] {-1, 5, MIN, MAX}) {
      Due.due("count(" + what + ")", x.count(what), -2);
    }
  }

  static void p27CountsOfAllThatThereCanBe() {
    PhraseMoods x = new PhraseMoods();
    for (int i = 0; i < 8; i++) {
      Due.ending(x, "rst", 0, i / 2, i % 2);
    }
    for (int i = 0; i < 20; i++) {
      Due.word(x, "kloubr", i == 0 ? 1 : 5, 0, 0);
    }
    for (int i = 0; i < 5; i++) {
      Due.frame(x, "n00v0v0v0v0v0");
    }
    Due.text(x, "k ".repeat(24) + "k");
    x.desk(0, 1);
    Due.feed(x, "k".repeat(50));
    int[] due = {20, 5, 25, 9 + 5 * 11, 50};
    for (int what = 0; what < 5; what++) {
      Due.due("count(" + what + ")", x.count(what), due[what]);
    }
  }

  static void p27EachCountAlone() {
    PhraseMoods x = new PhraseMoods();
    Due.word(x, "klou", 0, 0, 0);
    counts(x, 1, 0, 0, 0, 0);
    Due.frame(x, "p0p0");
    counts(x, 1, 1, 0, 0, 0);
    Due.text(x, "a b c");
    counts(x, 1, 1, 3, 0, 0);
    x.desk(0, 0);
    counts(x, 1, 1, 3, 9, 0);
    Due.feed(x, "ab");
    counts(x, 1, 1, 3, 9, 2);
  }

  private static void counts(PhraseMoods x, int... due) {
    for (int what = 0; what < 5; what++) {
      Due.due("count(" + what + ")", x.count(what), due[what]);
    }
  }
}
