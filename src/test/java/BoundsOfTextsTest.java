/**
 * The boundary cases of promises 15 to 19, and of what the terms say of THE TEXT, READINGS, NEAR, DRAWN and IN m seeds: a
 * test for each sentence, named by its promise. What stands in quotes are the document's words.
 */
final class BoundsOfTextsTest {
  private static final int MIN = Integer.MIN_VALUE, MAX = Integer.MAX_VALUE;

  public static void main(String[] args) {
    Due.runAll(BoundsOfTextsTest.class);
  }

  // ---- promise 15: text

  // "STATE: it is none (.. none at all)"
  static void p15NoneAtAllIsState() {
    PhraseMoods x = new PhraseMoods();
    Due.due("text", x.text(), -3);
    Due.due("count(2)", x.count(2), 0);
  }

  static void p15OneLetterIsAText() {
    PhraseMoods x = new PhraseMoods();
    Due.due("a", Due.text(x, "a"), 1);
    Due.due("z", Due.text(x, "z"), 1);
    Due.due("count(2)", x.count(2), 1);
  }

  // "with one blank between"
  static void p15BlankAheadIsState() {
    isNone(" a", " ", " a b");
  }

  static void p15BlankBehindIsState() {
    isNone("a ", "a b ");
  }

  static void p15TwoBlanksBetweenAreState() {
    isNone("a  b", "a   b", "a b  c");
  }

  // "words of a .. z"
  static void p15OtherBytesAreState() {
    for (char c : new char[] {'`', '{', 'A', 'Z', '@', '[', '0', '9', '\t', 0, 31, 33, 127, 128, 160, 225, 255}) {
      isNone("" + c, "a" + c, c + "a", "a" + c + "b", "a b" + c);
    }
  }

  // The blank between words is 32: by 10 nothing could be SAID.
  static void p15LineEndIsState() {
    isNone("a\nb", "\na", "a\n");
  }

  // "THE TAPE, which is empty then (by a FAULT, too)"; THE TEXT stays
  private static void isNone(String... texts) {
    PhraseMoods x = new PhraseMoods();
    Due.text(x, "one two");
    for (String t : texts) {
      Due.due("text \"" + t + "\"", Due.text(x, t), -3);
      Due.due("count(4) by \"" + t + "\"", x.count(4), 0);
      Due.due("count(2) by \"" + t + "\"", x.count(2), 2);
    }
  }

  static void p15TextStaysByState() {
    PhraseMoods x = new PhraseMoods();
    Due.word(x, "one", 0, 0, 0);
    Due.frame(x, "p0");
    Due.text(x, "one");
    Due.due("of none", x.text(), -3);
    Due.due("readings", x.readings(0), 4);
    Due.due("of two blanks", Due.text(x, "two  two"), -3);
    Due.due("readings", x.readings(0), 4);
  }

  static void p15TapeIsEmptyByAText() {
    PhraseMoods x = new PhraseMoods();
    Due.text(x, "one two");
    Due.due("count(4)", x.count(4), 0);
    Due.due("the next one", Due.text(x, "three"), 1);
  }

  // THE TAPE has 50 bytes at most.
  static void p15TextOf50Bytes() {
    PhraseMoods x = new PhraseMoods();
    Due.due("one word", Due.text(x, "k".repeat(50)), 1);
    Due.due("25 words", Due.text(x, "k ".repeat(24) + "kk"), 25);
    Due.due("count(2)", x.count(2), 25);
    Due.due("a blank behind", Due.text(x, "k ".repeat(25)), -3);
  }

  // ---- promise 16: readings

  private static void readingsAre(String call, PhraseMoods x, int many, int frame, int mood) {
    Due.due(call + ": readings(0)", x.readings(0), many);
    Due.due(call + ": readings(1)", x.readings(1), frame);
    Due.due(call + ": readings(2)", x.readings(2), mood);
  }

  static void p16WhatOutside0To2IsBad() {
    PhraseMoods x = Due.small();
    for (int what : new int[] {-1, 3, MIN, MAX}) {
      Due.due("readings(" + what + ")", x.readings(what), -2);
    }
  }

  // "(NONE)"
  static void p16NoReadingHasNoFirst() {
    PhraseMoods x = Due.small();
    Due.frame(x, "n00v0");
    readingsAre("no text", x, 0, -1, -1);
    Due.text(x, "gat cano");
    readingsAre("not said", x, 0, -1, -1);
    PhraseMoods y = Due.small();
    Due.text(y, "gat cana");
    readingsAre("no frame", y, 0, -1, -1);
  }

  static void p16OneReading() {
    PhraseMoods x = Due.small();
    Due.frame(x, "n00v0");
    Due.text(x, "gat caneta");
    readingsAre("by mood 2", x, 1, 0, 2);
  }

  static void p16WordTooFewOrTooMany() {
    PhraseMoods x = Due.small();
    Due.frame(x, "n00v0");
    Due.text(x, "gat");
    readingsAre("one", x, 0, -1, -1);
    Due.text(x, "gat cana cana");
    readingsAre("three", x, 0, -1, -1);
    Due.text(x, "gatcana");
    readingsAre("no blank", x, 0, -1, -1);
  }

  static void p16TextOfMoreWordsThanHolesCanBe() {
    PhraseMoods x = new PhraseMoods();
    Due.word(x, "a", 0, 0, 0);
    Due.frame(x, "p0p0p0p0p0p0");
    Due.text(x, "a a a a a a");
    readingsAre("six", x, 4, 0, 0);
    Due.text(x, "a a a a a a a");
    readingsAre("seven", x, 0, -1, -1);
    Due.text(x, "a ".repeat(24) + "a");
    readingsAre("25", x, 0, -1, -1);
  }

  static void p16LetterTooFewOrTooMany() {
    PhraseMoods x = Due.small();
    Due.frame(x, "p0");
    for (String t : new String[] {"an", "andd", "aand", "a", "bnd", "ane"}) {
      Due.text(x, t);
      readingsAre(t, x, 0, -1, -1);
    }
  }

  // "unlike if FRAME .. is"
  static void p16EachFrameCounts() {
    PhraseMoods x = Due.small();
    Due.text(x, "and");
    for (int i = 0; i < 5; i++) {
      Due.frame(x, "p0");
      readingsAre("frames " + (i + 1), x, 4 * (i + 1), 0, 0);
    }
  }

  // "unlike if .. MOOD .. is": also if it says the same
  static void p16EachMoodCounts() {
    PhraseMoods x = new PhraseMoods();
    Due.word(x, "k", 3, 1, 0);
    Due.word(x, "v", 2, 0, 0);
    Due.frame(x, "n00v0");
    Due.text(x, "k v");
    readingsAre("all moods", x, 4, 0, 0);
    Due.ending(x, "e", 0, 0, 0);
    readingsAre("but mood 0", x, 3, 0, 1);
    Due.ending(x, "e", 0, 1, 0);
    readingsAre("moods 2, 3", x, 2, 0, 2);
    Due.ending(x, "e", 0, 2, 0);
    readingsAre("mood 3", x, 1, 0, 3);
    Due.ending(x, "e", 0, 3, 0);
    readingsAre("no mood", x, 0, -1, -1);
  }

  // "unlike if .. a NUMBER of a GROUP of it .. is": not of a GROUP that it has not
  static void p16EachNumberOfItsGroupsCounts() {
    PhraseMoods x = new PhraseMoods();
    Due.word(x, "k", 1, 0, 0);
    Due.frame(x, "n00");
    Due.frame(x, "n00n20");
    Due.frame(x, "n00n10n20");
    Due.text(x, "k");
    readingsAre("one group", x, 4 * 2, 0, 0);
    Due.text(x, "k k");
    readingsAre("two groups", x, 4 * 4, 1, 0);
    Due.text(x, "k k k");
    readingsAre("three groups", x, 4 * 8, 2, 0);
    Due.ending(x, "s", 0, 0, 1);
    readingsAre("numbers 0", x, 4, 2, 0);
    Due.text(x, "k ks k");
    readingsAre("numbers 0, 1, 0", x, 4, 2, 0);
  }

  static void p16FrameWithoutGroupsCountsNoNumber() {
    PhraseMoods x = Due.small();
    Due.frame(x, "p0p0");
    Due.text(x, "and and");
    readingsAre("plain ones", x, 4, 0, 0);
  }

  // "(a NUMBER of a GROUP of a NAME is 0)"
  static void p16NumberOfANamesGroupCountsOnce() {
    PhraseMoods x = new PhraseMoods();
    Due.word(x, "k", 3, 0, 0);
    Due.frame(x, "n00");
    Due.frame(x, "n00n10");
    Due.text(x, "k");
    readingsAre("a name", x, 4, 0, 0);
    Due.text(x, "k k");
    readingsAre("two names", x, 4, 1, 0);
    Due.word(x, "k", 1, 0, 0);
    Due.text(x, "k");
    readingsAre("a name or a noun", x, 4 + 8, 0, 0);
    Due.text(x, "k k");
    readingsAre("of both", x, 4 * (1 + 2) * (1 + 2), 1, 0);
  }

  // "unlike if .. a WORD is": also of like FORMS
  static void p16EachWordCounts() {
    PhraseMoods x = new PhraseMoods();
    for (int i = 0; i < 3; i++) {
      Due.word(x, "k", 3, 0, 0);
    }
    Due.word(x, "v", 2, 1, 0);
    Due.word(x, "v", 2, 1, 0);
    Due.frame(x, "n00v0");
    Due.text(x, "k v");
    readingsAre("three by two", x, 4 * 3 * 2, 0, 0);
  }

  // A READING is what can be SAID: NUMBER, GENDER and MOOD agree.
  static void p16WhatDoesNotAgreeIsNoReading() {
    PhraseMoods x = Due.small();
    Due.frame(x, "f00n00v0");
    Due.text(x, "bela gat cana");
    readingsAre("agrees", x, 1, 0, 0);
    Due.text(x, "belo gat cana");
    readingsAre("another gender", x, 0, -1, -1);
    Due.text(x, "bela gat canan");
    readingsAre("another number at v", x, 0, -1, -1);
    Due.text(x, "belsa gat cana");
    readingsAre("another number at f", x, 0, -1, -1);
    Due.text(x, "belsa gats canan");
    readingsAre("number 1", x, 1, 0, 0);
    Due.text(x, "belsa ana canan");
    readingsAre("a name of number 1", x, 0, -1, -1);
  }

  // What is SAID is "by its CASE"
  static void p16EachByItsOwnCase() {
    PhraseMoods x = withCases();
    Due.text(x, "ks lto");
    readingsAre("cases 1 and 2", x, 4, 0, 0);
    Due.text(x, "kv lso");
    readingsAre("cases 3 and 1", x, 4, 1, 0);
    Due.text(x, "kt lso");
    readingsAre("cases 2 and 1", x, 0, -1, -1);
    Due.text(x, "ky lzo");
    readingsAre("cases 1 and 2, number 1", x, 4, 0, 0);
    Due.text(x, "ky lto");
    readingsAre("unlike numbers", x, 0, -1, -1);
  }

  /** FRAMES by CASES 1 and 2, 3 and 1; r, s, t, v are of NUMBER 0, x, y, z, w of NUMBER 1. */
  private static PhraseMoods withCases() {
    PhraseMoods x = new PhraseMoods();
    for (int casus = 0; casus < 4; casus++) {
      Due.ending(x, "" + "rstv".charAt(casus), 0, casus, 0);
      Due.ending(x, "" + "xyzw".charAt(casus), 0, casus, 1);
    }
    Due.word(x, "k", 1, 0, 0);
    Due.word(x, "l", 4, 0, 0);
    Due.frame(x, "n01f02");
    Due.frame(x, "n03f01");
    return x;
  }

  static void p16OneMoodForAllVerbs() {
    PhraseMoods x = Due.small();
    Due.frame(x, "n00v0v0");
    Due.text(x, "gat cana caneta");
    readingsAre("moods 0 and 2", x, 0, -1, -1);
    Due.text(x, "gat caneta caneta");
    readingsAre("mood 2", x, 1, 0, 2);
  }

  // "FIRST of them: the least FRAME, of these the least MOOD"
  static void p16FirstIsTheLeastFrameAndThenTheLeastMood() {
    PhraseMoods x = new PhraseMoods();
    Due.ending(x, "t", 0, 3, 0);
    Due.word(x, "kt", 3, 2, 0);
    Due.word(x, "k", 2, 0, 0);
    Due.word(x, "kt", 0, 0, 0);
    Due.frame(x, "n00");
    Due.frame(x, "n00v0");
    Due.frame(x, "n00p2");
    Due.text(x, "kt kt");
    // FRAME 1 by MOOD 3 alone, FRAME 2 by each MOOD.
    readingsAre("frame 1 is less, though its mood is not", x, 1 + 4, 1, 3);
  }

  static void p16WordsAndEndingsOfNow() {
    PhraseMoods x = new PhraseMoods();
    Due.word(x, "k", 3, 0, 0);
    Due.text(x, "k");
    Due.frame(x, "n00");
    readingsAre("one name", x, 4, 0, 0);
    Due.word(x, "k", 3, 0, 0);
    readingsAre("one more", x, 8, 0, 0);
    Due.ending(x, "s", 0, 0, 0);
    readingsAre("another ending", x, 0, -1, -1);
  }

  static void p16TheMostReadings() {
    PhraseMoods x = new PhraseMoods();
    for (int i = 0; i < 20; i++) {
      Due.word(x, "a", i < 3 ? 1 : 2, 0, 0);
    }
    for (int i = 0; i < 5; i++) {
      Due.frame(x, "n00v0v0v0v0v0");
    }
    Due.text(x, "a a a a a a");
    readingsAre("all", x, 5 * 4 * 2 * 3 * 17 * 17 * 17 * 17 * 17, 0, 0);
  }

  // ---- promise 17: near

  private static void nearIs(String call, PhraseMoods x, int far, int frame) {
    Due.due(call + ": near(0)", x.near(0), far);
    Due.due(call + ": near(1)", x.near(1), frame);
  }

  static void p17WhatOutside0To1IsBad() {
    PhraseMoods x = Due.small();
    for (int what : new int[] {-1, 2, MIN, MAX}) {
      Due.due("near(" + what + ")", x.near(what), -2);
    }
  }

  // "NONE: there are none"
  static void p17NoneWithoutAFrame() {
    PhraseMoods x = Due.small();
    Due.text(x, "gat");
    nearIs("no frame", x, -1, -1);
  }

  static void p17NoneWithoutAText() {
    PhraseMoods x = Due.small();
    Due.frame(x, "n00");
    nearIs("no text", x, -1, -1);
  }

  // "FRAMES of as many HOLES as THE TEXT has words"
  static void p17NoneOfAsManyHoles() {
    PhraseMoods x = Due.small();
    Due.frame(x, "n00v0");
    Due.text(x, "gat");
    nearIs("one word", x, -1, -1);
    Due.text(x, "gat cana gat");
    nearIs("three words", x, -1, -1);
    Due.text(x, "a ".repeat(24) + "a");
    nearIs("25 words", x, -1, -1);
    Due.text(x, "gat cana");
    nearIs("two words", x, 0, 0);
  }

  static void p17SixWordsAndSeven() {
    PhraseMoods x = new PhraseMoods();
    Due.word(x, "a", 0, 0, 0);
    Due.frame(x, "p0p0p0p0p0p0");
    Due.text(x, "a b a b a b");
    nearIs("six", x, 3, 0);
    Due.text(x, "a b a b a b a");
    nearIs("seven", x, -1, -1);
  }

  // "of all FILLED FRAMES"
  static void p17NoneIfNoFrameCanBeFilled() {
    PhraseMoods x = new PhraseMoods();
    Due.word(x, "k", 1, 0, 0);
    Due.frame(x, "n00v0");
    Due.frame(x, "f00n00");
    Due.frame(x, "v0n00");
    Due.text(x, "k k");
    nearIs("no verb, no fitting one", x, -1, -1);
    Due.word(x, "k", 4, 0, 0);
    nearIs("a fitting one", x, 1, 1);
  }

  static void p17FrameThatCanNotBeFilledIsNotTheLeast() {
    PhraseMoods x = new PhraseMoods();
    Due.word(x, "k", 0, 0, 0);
    Due.frame(x, "n00");
    Due.frame(x, "p0");
    Due.text(x, "abcdef");
    nearIs("far, but filled", x, 6, 1);
  }

  // "how far the words are APART, together"
  static void p17FarnessIsAddedUp() {
    PhraseMoods x = Due.small();
    Due.frame(x, "p0p0p0");
    Due.text(x, "and xxx an");
    nearIs("0 + 3 + 1", x, 3 + 1, 0);
  }

  // "the least FRAME by which it is so"
  static void p17LeastOfFramesThatAreAsNear() {
    PhraseMoods x = new PhraseMoods();
    Due.word(x, "kk", 0, 0, 0);
    Due.word(x, "rs", 0, 0, 0);
    Due.word(x, "rt", 0, 0, 0);
    Due.frame(x, "p0");
    Due.frame(x, "p1");
    Due.frame(x, "p2");
    Due.frame(x, "p1");
    Due.text(x, "rr");
    nearIs("frames 1, 2, 3", x, 1, 1);
    Due.text(x, "rt");
    nearIs("frame 2", x, 0, 2);
    Due.text(x, "xyz");
    nearIs("all", x, 3, 0);
  }

  // "at least": of all WORDS, MOODS, NUMBERS
  static void p17LeastOfWordsMoodsNumbers() {
    PhraseMoods x = Due.small();
    Due.frame(x, "n00v0");
    Due.text(x, "lopes canan");
    nearIs("word 2, mood 0, number 1", x, 0, 0);
    Due.text(x, "lopes caneta");
    nearIs("an s too many", x, 1, 0);
    Due.text(x, "gat podetaa");
    nearIs("mood 2, number 0", x, 0, 0);
  }

  // What is FILLED agrees: the least is of the whole, not of each word alone.
  static void p17WhatIsNearAgrees() {
    PhraseMoods x = new PhraseMoods();
    Due.ending(x, "xyz", 0, 0, 1);
    Due.ending(x, "rst", 1, 0, 1);
    Due.word(x, "k", 1, 0, 0);
    Due.word(x, "v", 2, 1, 0);
    Due.frame(x, "n00v0");
    Due.text(x, "k vrst");
    // Of NUMBER 0 the verb is 3 APART, of NUMBER 1 the noun; each by its own NUMBER none would be.
    nearIs("number 0 or 1", x, 3, 0);
    Due.text(x, "kxyz vrst");
    nearIs("number 1", x, 0, 0);
  }

  static void p17EachByItsOwnCase() {
    PhraseMoods x = withCases();
    Due.text(x, "ks lto");
    nearIs("cases 1 and 2", x, 0, 0);
    Due.text(x, "kw lyo");
    nearIs("cases 3 and 1, number 1", x, 0, 1);
    Due.text(x, "kr lro");
    nearIs("case 0 is in none", x, 2, 0);
    Due.text(x, "kv lro");
    nearIs("case 3", x, 1, 1);
  }

  // MOOD is one for all of it, also where the VERBS are of unlike GROUPS.
  static void p17OneMoodForAllGroups() {
    PhraseMoods x = new PhraseMoods();
    for (int mood = 0; mood < 4; mood++) {
      Due.ending(x, "rstz".substring(mood, mood + 1), 1, mood, 0);
      Due.ending(x, "rstz".substring(mood, mood + 1), 1, mood, 1);
    }
    Due.word(x, "k", 1, 0, 0);
    Due.word(x, "v", 2, 1, 0);
    Due.frame(x, "n00v0n10v1");
    for (int i = 0; i < 16; i++) {
      Due.text(x, "k v" + "rstz".charAt(i / 4) + " k v" + "rstz".charAt(i % 4));
      nearIs("moods " + i / 4 + ", " + i % 4, x, i / 4 == i % 4 ? 0 : 1, 0);
    }
  }

  // NUMBER is each GROUP's own, and each GROUP counts once.
  static void p17EachGroupForItself() {
    PhraseMoods x = new PhraseMoods();
    Due.ending(x, "rst", 0, 0, 1);
    Due.ending(x, "xyz", 1, 0, 1);
    Due.ending(x, "xyz", 1, 1, 1);
    Due.ending(x, "xyz", 1, 2, 1);
    Due.ending(x, "xyz", 1, 3, 1);
    Due.word(x, "k", 1, 0, 0);
    Due.word(x, "v", 2, 1, 0);
    Due.word(x, "p", 0, 0, 0);
    Due.frame(x, "n00p2n10v1v0n20");
    Due.text(x, "krst p k v vxyz krst");
    nearIs("numbers 1, 0, 1", x, 0, 0);
    Due.text(x, "k p krst vxyz v k");
    nearIs("numbers 0, 1, 0", x, 0, 0);
    Due.text(x, "krst p krst v v k");
    nearIs("3 for group 0, 3 for group 1", x, 6, 0);
    Due.text(x, "kr q krst vxy v krs");
    nearIs("1 and 1 and 1 and 1", x, 1 + 1 + 1 + 1, 0);
  }

  // The longest FORM is of 10 letters.
  static void p17LongestForm() {
    PhraseMoods x = new PhraseMoods();
    for (int i = 0; i < 8; i++) {
      Due.ending(x, "rst", 0, i / 2, i % 2);
    }
    Due.word(x, "kloubr", 1, 0, 0);
    Due.word(x, "kloubr", 4, 0, 0);
    Due.frame(x, "n00f00");
    Due.text(x, "kloubrrst kloubrrsto");
    nearIs("what can be said", x, 0, 0);
    Due.text(x, "k xxxxxxxxxxx");
    nearIs("8 taken out, 10 changed and one put in", x, 8 + 11, 0);
    Due.text(x, "x x");
    nearIs("of one letter each", x, 9 + 10, 0);
  }

  static void p17NameIsNearByNumber0Alone() {
    PhraseMoods x = new PhraseMoods();
    Due.ending(x, "st", 0, 0, 1);
    Due.word(x, "k", 3, 0, 0);
    Due.word(x, "v", 2, 0, 0);
    Due.frame(x, "n00v0");
    Due.text(x, "k vst");
    nearIs("a name", x, 2, 0);
    Due.word(x, "k", 1, 1, 0);
    nearIs("a noun of another table", x, 0, 0);
  }

  static void p17GenderOfTheNIsThatOfTheFittingOne() {
    PhraseMoods x = new PhraseMoods();
    Due.word(x, "kkk", 1, 0, 0);
    Due.word(x, "rrr", 1, 0, 1);
    Due.word(x, "f", 4, 0, 0);
    Due.frame(x, "n00f00");
    Due.text(x, "kkk fa");
    nearIs("fo is one apart", x, 1, 0);
    Due.text(x, "rrr fa");
    nearIs("fa", x, 0, 0);
  }

  // "the fewest letters put in, taken out or changed"
  static void p17PutIn() {
    apart("kr", "kxr", 1);
    apart("k", "xxxxk", 4);
    apart("k", "kxxxx", 4);
    apart("k", "x".repeat(49) + "k", 49);
    apart("k", "x".repeat(50), 50);
  }

  static void p17TakenOut() {
    apart("kxr", "kr", 1);
    apart("kloubr", "k", 5);
    apart("kloubr", "r", 5);
    apart("kloubr", "x", 6);
  }

  static void p17Changed() {
    apart("k", "x", 1);
    apart("kloubr", "xloubr", 1);
    apart("kloubr", "kloubx", 1);
    apart("kloubr", "xyzvwt", 6);
  }

  static void p17FewestOfThem() {
    apart("ab", "ba", 2);
    apart("abcdef", "bcdefa", 2);
    apart("kitten", "sittng", 3);
    apart("abab", "baba", 2);
    apart("kloubr", "kloubr", 0);
  }

  private static void apart(String word, String text, int far) {
    PhraseMoods x = new PhraseMoods();
    Due.word(x, word, 0, 0, 0);
    Due.frame(x, "p0");
    Due.text(x, text);
    nearIs(word + ", " + text, x, far, 0);
  }

  // ---- promise 18: drawn

  static void p18WhatOutside0To1IsBad() {
    PhraseMoods x = Due.small();
    Due.frame(x, "n00v0");
    for (int what : new int[] {-1, 2, MIN, MAX}) {
      Due.due("drawn(1, " + what + ")", x.drawn(1, what), -2);
    }
  }

  static void p18NoFrameIsState() {
    PhraseMoods x = Due.small();
    Due.due("drawn(1, 0)", x.drawn(1, 0), -3);
    Due.due("drawn(1, 1)", x.drawn(1, 1), -3);
  }

  // There are FRAMES: that THE DESK has none does not matter.
  static void p18NoFrameOnTheDeskIsNoState() {
    PhraseMoods x = Due.small();
    Due.frame(x, "p0");
    Due.due("drawn(1, 1)", x.drawn(1, 1), 3);
    Due.due("drawn(1, 0)", x.drawn(1, 0), 4);
  }

  static void p18BadIsAheadOfState() {
    PhraseMoods x = Due.small();
    Due.due("drawn(1, -1)", x.drawn(1, -1), -2);
    Due.due("drawn(1, 2)", x.drawn(1, 2), -2);
  }

  // "it SAYS a text (none, if there is no WORD for a HOLE)": "it answers 0"
  static void p18NoWordForAHoleIs0() {
    for (String f : new String[] {"n00v0", "v0n00", "n00f00", "f00n00"}) {
      PhraseMoods x = new PhraseMoods();
      Due.word(x, "k", 1, 0, 0);
      Due.frame(x, f);
      for (int seed = 0; seed < 5; seed++) {
        Due.due("drawn(" + seed + ", 0) of " + f, x.drawn(seed, 0), 0);
        Due.due("drawn(" + seed + ", 1) of " + f, x.drawn(seed, 1), 0);
      }
    }
  }

  private static final String[] FRAMES = {"n00v0", "f01p0n01v0", "n10n00v1v0", "p0", "v2n23"};
  private static final String[] HOLES = {"nv", "fpnv", "nnvv", "p", "vn"};

  /** All FRAMES, so that each draw shows in how long it is. */
  private static PhraseMoods withFrames(int frames) {
    PhraseMoods x = new PhraseMoods();
    String[] stems = {"p", "nn", "nnnn", "v", "vvv", "fff", "n", "mmmmm", "f"};
    int[] kinds = {0, 1, 1, 2, 2, 4, 3, 5, 4};
    for (int i = 0; i < stems.length; i++) {
      Due.word(x, stems[i], kinds[i], kinds[i] == 2 || kinds[i] == 5 ? 1 : 0, i % 3);
    }
    for (int i = 0; i < 4; i++) {
      Due.ending(x, "rst".substring(0, i), 1, i, 0);
      Due.ending(x, "rst".substring(0, 3 - i), 1, i, 1);
      Due.ending(x, "rst".substring(0, i == 0 ? 2 : 1), 0, i, 1);
    }
    for (int i = 0; i < frames; i++) {
      Due.frame(x, FRAMES[i]);
    }
    return x;
  }

  private static int z;

  private static int next(int many) {
    z = z * 1103515245 + 12345;
    return (z >>> 9) % many;
  }

  /** Fills THE DESK as a SEED draws: how long it is. */
  private static int lengthBy(PhraseMoods x, int frames, int seed) {
    z = seed;
    int frame = next(frames);
    x.desk(frame, next(4));
    int[] numbers = {next(2), next(2), next(2)};
    for (int i = 0; i < HOLES[frame].length(); i++) {
      char hole = HOLES[frame].charAt(i);
      int[] words = hole == 'n' ? new int[] {1, 2, 6} : hole == 'v' ? new int[] {3, 4, 7} : new int[] {5, 8};
      if (hole != 'p') {
        x.choose(i, words[next(words.length)]);
      }
    }
    for (int group = 0; group < 3; group++) {
      x.number(group, numbers[group]);
    }
    return x.said(-1);
  }

  // "FRAME (z >>> 9) % (how many); MOOD ..; NUMBERS .. of GROUPS 0, 1, 2; HOLE by HOLE (but p) ..": in this order
  static void p18DrawnInOrder() {
    for (int frames = 1; frames <= 5; frames++) {
      for (int from = 0; from < 60; from += 12) {
        PhraseMoods x = withFrames(frames);
        for (int seed = from; seed < from + 12; seed++) {
          int due = lengthBy(x, frames, seed);
          Due.due("drawn(" + seed + ", 1) of " + frames, x.drawn(seed, 1), due);
        }
      }
    }
  }

  // "(an int; SEED at first)": it wraps, and >>> takes the sign as a bit
  static void p18SeedsOfAllInts() {
    int[] seeds = {0, -1, 1, MIN, MAX, MIN + 1, MAX - 1, 1 << 30, -(1 << 30), 0x55555555, 0xaaaaaaaa, -12345, 65536, -65536, 511, 512};
    PhraseMoods x = withFrames(5);
    for (int seed : seeds) {
      Due.due("drawn(" + seed + ", 1)", x.drawn(seed, 1), lengthBy(x, 5, seed));
    }
  }

  // What 0: "how many READINGS it has", whatever THE TEXT is
  static void p18ReadingsOfWhatIsDrawn() {
    PhraseMoods x = withFrames(5);
    for (int seed = 0; seed < 6; seed++) {
      Due.text(x, "other text");
      int drawn = x.drawn(seed, 0);
      lengthBy(x, 5, seed);
      Due.text(x, Due.said(x));
      Due.due("drawn(" + seed + ", 0)", drawn, x.readings(0));
    }
  }

  // "in thought": THE DESK and THE TEXT stay, and the next draw begins anew
  static void p18InThought() {
    PhraseMoods x = withFrames(5);
    x.desk(0, 2);
    x.number(0, 1);
    x.choose(0, 2);
    Due.text(x, "one two three");
    String said = Due.said(x);
    int drawn = x.drawn(9, 1);
    Due.due("drawn again", x.drawn(9, 1), drawn);
    x.drawn(10, 0);
    Due.due("drawn again", x.drawn(9, 1), drawn);
    Due.dueText("said", Due.said(x), said);
    Due.due("count(2)", x.count(2), 3);
    Due.due("number", x.number(0, 1), 1);
    Due.due("hole 0", x.choose(0, 1), 2);
  }

  // What is DRAWN may be longer than THE TAPE.
  static void p18LongestDrawn() {
    PhraseMoods x = new PhraseMoods();
    for (int i = 0; i < 8; i++) {
      Due.ending(x, "rst", 0, i / 2, i % 2);
    }
    Due.word(x, "kloubr", 3, 0, 0);
    Due.word(x, "kloubr", 4, 0, 0);
    Due.frame(x, "n00f00f00f00f00f00");
    Due.due("how long", x.drawn(4, 1), 9 + 5 * 11);
    Due.due("readings", x.drawn(4, 0), 4);
  }

  // ---- promise 19: chance

  // "m seeds (1 .. 8)"
  static void p19SeedsOutside1To8AreBad() {
    PhraseMoods x = sureAndUnsure();
    for (int m : new int[] {0, 9, -1, MIN, MAX}) {
      Due.due("chance(1, " + m + ", 0)", x.chance(1, m, 0), -2);
      Due.due("chance(1, " + m + ", 1)", x.chance(1, m, 1), -2);
    }
  }

  static void p19PartOutside0To1IsBad() {
    PhraseMoods x = sureAndUnsure();
    for (int part : new int[] {-1, 2, MIN, MAX}) {
      Due.due("chance(1, 1, " + part + ")", x.chance(1, 1, part), -2);
    }
  }

  static void p19NoFrameIsState() {
    PhraseMoods x = Due.small();
    Due.due("chance(1, 1, 0)", x.chance(1, 1, 0), -3);
    Due.due("chance(1, 8, 1)", x.chance(1, 8, 1), -3);
  }

  static void p19BadIsAheadOfState() {
    PhraseMoods x = Due.small();
    Due.due("m 0", x.chance(1, 0, 0), -2);
    Due.due("m 9", x.chance(1, 9, 0), -2);
    Due.due("part 2", x.chance(1, 1, 2), -2);
  }

  /** FRAME 0 has one READING for each MOOD that it is SAID by; FRAME 1 four; FRAME 2 can't be FILLED. */
  private static PhraseMoods sureAndUnsure() {
    PhraseMoods x = new PhraseMoods();
    for (int mood = 0; mood < 4; mood++) {
      Due.ending(x, "" + "rstz".charAt(mood), 1, mood, 0);
    }
    Due.word(x, "k", 3, 0, 0);
    Due.word(x, "v", 2, 1, 0);
    Due.frame(x, "n00v0");
    Due.frame(x, "n00");
    Due.frame(x, "f00n00");
    return x;
  }

  private static int sureIn(int seed, int m) {
    int sure = 0;
    for (int i = 0; i < m; i++) {
      z = seed + i;
      sure += next(3) == 0 ? 1 : 0;
    }
    return sure;
  }

  // "SEED and each 1 more": m of them; "by which the text has just one READING"
  static void p19HowManyOfMSeeds() {
    for (int seed = 0; seed < 100; seed += 5) {
      PhraseMoods x = sureAndUnsure();
      for (int m = 1; m <= 8; m++) {
        int sure = sureIn(seed, m);
        int common = m;
        while (m % common != 0 || sure % common != 0) {
          common--;
        }
        Due.due("chance(" + seed + ", " + m + ", 0)", x.chance(seed, m, 0), sure / common);
        Due.due("chance(" + seed + ", " + m + ", 1)", x.chance(seed, m, 1), m / common);
      }
    }
  }

  // "each 1 more (an int)": behind the most is the least
  static void p19SeedsWrap() {
    for (int back = 0; back < 8; back++) {
      PhraseMoods x = sureAndUnsure();
      int seed = MAX - back;
      int sure = sureIn(seed, 8);
      Due.due("chance(most - " + back + ", 8, 0)", x.chance(seed, 8, 0) * 8, x.chance(seed, 8, 1) * sure);
      int one = 0;
      for (int i = 0; i < 8; i++) {
        one += x.drawn(seed + i, 0) == 1 ? 1 : 0;
      }
      Due.due("as drawn one by one", one, sure);
    }
  }

  // "in lowest terms": none of m is 0 by 1
  static void p19NoneIs0By1() {
    PhraseMoods x = Due.small();
    Due.frame(x, "p0");
    for (int m = 1; m <= 8; m++) {
      Due.due("chance(3, " + m + ", 0)", x.chance(3, m, 0), 0);
      Due.due("chance(3, " + m + ", 1)", x.chance(3, m, 1), 1);
    }
  }

  // All of m are 1 by 1.
  static void p19AllIs1By1() {
    PhraseMoods x = new PhraseMoods();
    for (int mood = 0; mood < 4; mood++) {
      Due.ending(x, "" + "rstz".charAt(mood), 1, mood, 0);
    }
    Due.word(x, "k", 3, 0, 0);
    Due.word(x, "v", 2, 1, 0);
    Due.frame(x, "n00v0");
    for (int m = 1; m <= 8; m++) {
      Due.due("chance(3, " + m + ", 0)", x.chance(3, m, 0), 1);
      Due.due("chance(3, " + m + ", 1)", x.chance(3, m, 1), 1);
    }
  }

  // A text of no READING, for a HOLE has no WORD, is none of them.
  static void p19NoWordForAHoleIsNoneOfThem() {
    PhraseMoods x = new PhraseMoods();
    Due.word(x, "k", 1, 0, 0);
    Due.frame(x, "f00n00");
    Due.due("above", x.chance(0, 8, 0), 0);
    Due.due("below", x.chance(0, 8, 1), 1);
  }

  // All lowest terms that there are by m 8: 2, 4, 6 of 8 too.
  static void p19LowestTerms() {
    int seen = 0;
    for (int seed = 0; seed < 200 && seen != 0b1111111; seed++) {
      int sure = sureIn(seed, 8);
      if (sure >= 1 && sure <= 7 && (seen >> sure - 1 & 1) == 0) {
        seen |= 1 << sure - 1;
        PhraseMoods x = sureAndUnsure();
        Due.due("above of " + sure, x.chance(seed, 8, 0), new int[] {1, 1, 3, 1, 5, 3, 7}[sure - 1]);
        Due.due("below of " + sure, x.chance(seed, 8, 1), new int[] {8, 4, 8, 2, 8, 4, 8}[sure - 1]);
      }
    }
    Due.due("some of 2, 4, 6 of 8 were met", Integer.bitCount(seen & 0b0101010) >= 2 ? 1 : 0, 1);
  }
}
