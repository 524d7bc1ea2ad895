/**
 * The boundary cases of promises 5 and 9, and of what the terms say of FRAMES: a test for each sentence, named by its
 * promise. What stands in quotes are the document's words.
 */
final class BoundsOfFramesTest {
  private static final int MIN = Integer.MIN_VALUE, MAX = Integer.MAX_VALUE;

  public static void main(String[] args) {
    Due.runAll(BoundsOfFramesTest.class);
  }

  /** Words 0 .. 19: 0, 1, 5, 10 and 19 are plain, 2 a verb, all else nouns. */
  private static PhraseMoods many() {
    PhraseMoods x = new PhraseMoods();
    for (int i = 0; i < 20; i++) {
      Due.word(x, "w", i == 0 || i == 1 || i == 5 || i == 10 || i == 19 ? 0 : i == 2 ? 2 : 1, 0, 0);
    }
    return x;
  }

  /** A text that is a FRAME, of so many HOLES; on an object of its own. */
  private static void reads(String text, int holes) {
    PhraseMoods x = many();
    Due.due("frame \"" + text + "\"", Due.frame(x, text), 0);
    Due.due("holes of \"" + text + "\"", x.desk(0, 0), holes);
    Due.due("count(1) by \"" + text + "\"", x.count(1), 1);
    Due.due("count(4) by \"" + text + "\"", x.count(4), 0);
  }

  /** A text that has its FAULT at a place; on an object of its own. */
  private static void faults(String text, int place) {
    PhraseMoods x = many();
    Due.due("frame \"" + text + "\"", Due.frame(x, text), -100 - place);
    Due.due("count(1) by \"" + text + "\"", x.count(1), 0);
    Due.due("count(4) by \"" + text + "\"", x.count(4), 0);
  }

  // ---- promise 5: frame

  // "HOLES .. (.. 1 .. 6)"
  static void p05FrameOf0HolesEndsTooEarly() {
    faults("", 0);
    faults(" ", 1);
    faults("\n", 1);
    faults(" \n \n ", 5);
    faults(" ".repeat(50), 50);
  }

  static void p05FrameOf1To6Holes() {
    for (int holes = 1; holes <= 6; holes++) {
      reads("n00v0v0v0v0v0".substring(0, 1 + 2 * holes), holes);
      reads("p0".repeat(holes), holes);
    }
  }

  // "a 7th HOLE's letter"
  static void p05SeventhHoleIsAFaultAtItsLetter() {
    faults("p0p0p0p0p0p0p0", 12);
    faults("n00v0v0v0v0v0v0", 13);
    faults("v0v0v0v0v0v0n00", 12);
    faults("n00n10n20f00f10f20f00", 18);
    faults("p0 p0 p0 p0 p0 p0 p0", 18);
    faults("p0p0p0p0p0p0n", 12);
    faults("p0p0p0p0p0p0  \nx", 15);
  }

  static void p05BlanksBehindSixHoles() {
    reads("p0p0p0p0p0p0 ", 6);
    reads("p0p0p0p0p0p0 \n\n ", 6);
  }

  // "THE TAPE (50 bytes at most)"
  static void p05FrameOf50Bytes() {
    reads("n00" + " ".repeat(45) + "v0", 2);
    reads("n00v0f01p10p00" + "\n".repeat(36), 5);
    faults("n00" + " ".repeat(45) + "v1", 50);
    faults(" ".repeat(49) + "x", 49);
  }

  // "blanks (32, 10) may stand ahead of, between, behind .. them"
  static void p05BlanksStandAheadBetweenBehind() {
    reads(" n00v0", 2);
    reads("\nn00v0", 2);
    reads("n00 v0", 2);
    reads("n00\nv0", 2);
    reads("n00v0 ", 2);
    reads("n00v0\n", 2);
    reads(" \n n00 \n\n v0\n \n", 2);
  }

  // "FRAMES need no blank between HOLES."
  static void p05NoBlankIsNeeded() {
    reads("n00v0p0f03p10n13", 6);
    reads("p1p1", 2);
    reads("v0v0n00", 3);
  }

  // "not in them"
  static void p05BlankInAHoleIsAFault() {
    for (String blank : new String[] {" ", "\n"}) {
      faults("n" + blank + "00", 1);
      faults("n0" + blank + "0", 2);
      faults("n00v" + blank + "0", 4);
      faults("n00f" + blank + "00", 4);
      faults("n00f0" + blank + "0", 5);
      faults("p" + blank + "0", 1);
      faults("p1" + blank + "0", 3);
    }
  }

  // 32 and 10 alone are blanks.
  static void p05OtherBytesAreNoBlanks() {
    for (char c : new char[] {0, 9, 11, 12, 13, 31, 33, 160, 138, 255}) {
      faults(c + "n00", 0);
      faults("n00" + c + "v0", 3);
      faults("n00" + c, 3);
      faults(" " + c, 1);
    }
  }

  // "n GROUP CASE; v GROUP; f GROUP CASE; p WORD": no other letter
  static void p05OtherLettersAreFaults() {
    for (char c = 0; c < 256; c++) {
      if ("nvfp \n".indexOf(c) < 0) {
        faults(c + "00", 0);
        faults("v0 " + c + "00", 3);
      }
    }
  }

  // "GROUP 0 .. 2"
  static void p05GroupFrom0To2() {
    reads("n00", 1);
    reads("n20", 1);
    reads("n10v1f10", 3);
    reads("v2f20n20", 3);
  }

  static void p05GroupOutside0To2IsAFaultAtIt() {
    for (char c : new char[] {'3', '9', '/', ':', '-', 'a', 'n', 0, 128 + '0', 255}) {
      faults("n" + c + "0", 1);
      faults("n00v" + c, 4);
      faults("n00f" + c + "0", 4);
    }
  }

  // "CASE 0 .. 3"
  static void p05CaseFrom0To3() {
    for (int casus = 0; casus < 4; casus++) {
      reads("n0" + casus, 1);
      reads("n00f0" + casus, 2);
    }
  }

  static void p05CaseOutside0To3IsAFaultAtIt() {
    for (char c : new char[] {'4', '9', '/', ':', '-', 'a', 'n', 0, 128 + '0', 255}) {
      faults("n0" + c, 2);
      faults("n00f0" + c, 5);
    }
  }

  // "GROUP .., CASE .. (one each)"
  static void p05OneDigitEach() {
    faults("n000", 3);
    faults("n00v00", 5);
    faults("n00f000", 6);
  }

  // "a letter and digits right behind it": v has no CASE, n and f have both
  static void p05DigitsThatTheLetterAsks() {
    faults("n0v0", 2);
    faults("n00f0v0", 5);
    reads("n00v0v0", 3);
  }

  // "WORD 1 or 2 digits"
  static void p05WordOf1Digit() {
    reads("p0", 1);
    reads("p5", 1);
    reads("p1 p1", 2);
    reads("p1n00", 2);
  }

  static void p05WordOf2Digits() {
    reads("p00", 1);
    reads("p05", 1);
    reads("p10", 1);
    reads("p19", 1);
    PhraseMoods x = many();
    Due.frame(x, "p05p10p19");
    Due.due("05", x.hole(0, 0, 3), 5);
    Due.due("10", x.hole(0, 1, 3), 10);
    Due.due("19", x.hole(0, 2, 3), 19);
  }

  // "as many as stand there, two at most"
  static void p05AsManyDigitsAsStandThere() {
    // WORD 1 is a plain one, and so is 0; but 12 is none.
    faults("p12", 1);
    PhraseMoods x = many();
    Due.due("p10", Due.frame(x, "p10"), 0);
    Due.due("it is one hole", x.desk(0, 0), 1);
    Due.due("of word 10", x.hole(0, 0, 3), 10);
  }

  // "a third one is a byte that can't stand there"
  static void p05ThirdDigitIsAFault() {
    faults("p000", 3);
    faults("p100", 3);
    faults("p1000", 3);
    faults("p0p0p001", 7);
  }

  // The first byte that can't stand there is the first digit, if two digits name no WORD.
  static void p05WordsFirstDigitIsAheadOfAThird() {
    faults("p123", 1);
    faults("p999", 1);
  }

  // "a WORD that there is": "of a WORD its first digit"
  static void p05WordThatIsNoneIsAFaultAtItsFirstDigit() {
    faults("p20", 1);
    faults("p99", 1);
    PhraseMoods x = new PhraseMoods();
    Due.due("no word", Due.frame(x, "p0"), -101);
    Due.word(x, "w", 0, 0, 0);
    Due.due("word 0", Due.frame(x, "p0"), 0);
    Due.due("no word 1", Due.frame(x, "p1"), -101);
    Due.due("no word 1", Due.frame(x, "p0 p01"), -104);
    Due.word(x, "w", 0, 0, 0);
    Due.due("word 1", Due.frame(x, "p1"), 1);
  }

  // "of KIND 0"
  static void p05WordOfAnotherKindIsAFaultAtItsFirstDigit() {
    PhraseMoods x = Due.small();
    Due.due("a plain one", Due.frame(x, "p0"), 0);
    for (int word = 1; word < 7; word++) {
      Due.due("word " + word, Due.frame(x, "p" + word), -101);
      Due.due("word 0" + word, Due.frame(x, " p0p0" + word), -104);
    }
  }

  static void p05NoDigitBehindPIsAFaultAtItsPlace() {
    for (char c : new char[] {'n', 'p', '/', ':', '-', 0, 128 + '0', 255}) {
      faults("p" + c + "0", 1);
      faults("p" + c, 1);
    }
  }

  static void p05NoDigitBehindTheFirstOneIsAFaultAtItsPlace() {
    for (char c : new char[] {'/', ':', '-', 0, 128 + '0', 255}) {
      faults("p0" + c, 2);
      faults("p1" + c + "0", 2);
    }
  }

  // Of 10 digits, 0 to 9.
  static void p05EachDigitOfAWord() {
    PhraseMoods x = new PhraseMoods();
    for (int i = 0; i < 20; i++) {
      Due.word(x, "w", 0, 0, 0);
    }
    for (int i = 0; i < 4; i++) {
      Due.due("five words", Due.frame(x, "p" + 5 * i + "p" + (5 * i + 1) + "p" + (5 * i + 2) + "p" + (5 * i + 3) + "p" + (5 * i + 4)), i);
      for (int j = 0; j < 5; j++) {
        Due.due("word", x.hole(i, j, 3), 5 * i + j);
      }
    }
  }

  // "Each GROUP in a FRAME has just one n": "of a second n of a GROUP its GROUP"
  static void p05SecondNOfAGroupIsAFaultAtItsGroup() {
    faults("n00n00", 4);
    faults("n00 n01", 5);
    faults("n20n10n00n10", 10);
    faults("n00n0", 4);
    faults("n00n04", 4);
    reads("n00n10n20", 3);
  }

  // "if a GROUP has no n": "its FAULT is the text's size"
  static void p05GroupWithoutNIsAFaultAtTheSize() {
    faults("v0", 2);
    faults("f00", 3);
    faults("v0 ", 3);
    faults("n00v1", 5);
    faults("n00v0f13", 8);
    faults("n00n10v2  ", 10);
    faults("v0v0v0v0v0v0", 12);
    faults("n00v2v0v0v0v0\n", 14);
  }

  static void p05NMayStandBehindItsGroup() {
    reads("v0n00", 2);
    reads("f00v0n00", 3);
    reads("v2v1v0n00n10n20", 6);
  }

  // "the text's size, if it ends too early"
  static void p05TextThatEndsInAHoleIsAFaultAtTheSize() {
    for (String text : new String[] {"n", "n0", "v", "f", "f0", "p", "n00v", "n00f", "n00f0", "n00p", " n", "n00 v"}) {
      faults(text, text.length());
    }
  }

  // "the place of the first byte that can't stand there"
  static void p05FirstFaultIsTheOne() {
    faults("xn9", 0);
    faults("v1x", 2);
    faults("v1n00n04", 6);
    faults("n00v3p99", 4);
    faults("p99x", 1);
    faults("v0v0v0v0v0v0x", 12);
  }

  // "THE TAPE, which is empty then (by a FAULT, by FULL, too)"
  static void p05TapeIsEmptyByAFrame() {
    PhraseMoods x = many();
    Due.frame(x, "n00");
    Due.due("count(4)", x.count(4), 0);
    Due.due("the next one", Due.frame(x, "p0"), 1);
    Due.due("it is of one hole", x.desk(1, 0), 1);
  }

  static void p05TapeIsEmptyByAFault() {
    PhraseMoods x = many();
    Due.frame(x, "n00x");
    Due.due("count(4)", x.count(4), 0);
    Due.due("the next one", Due.frame(x, "p0"), 0);
    Due.due("it is of one hole", x.desk(0, 0), 1);
    Due.due("a p", x.hole(0, 0, 0), 3);
  }

  private static PhraseMoods withFiveFrames() {
    PhraseMoods x = many();
    String[] texts = {"n00", "n01v0", "p0p0p0", "n00n10n20v0", "p19p10p5p1p0"};
    for (int i = 0; i < 5; i++) {
      Due.due("frame " + i, Due.frame(x, texts[i]), i);
    }
    return x;
  }

  static void p05TapeIsEmptyByFull() {
    PhraseMoods x = withFiveFrames();
    Due.frame(x, "p0");
    Due.due("count(4)", x.count(4), 0);
  }

  // "FRAMES (5 at most, numbered from 0)"
  static void p05Frame5IsTheLastOne() {
    PhraseMoods x = withFiveFrames();
    Due.due("count(1)", x.count(1), 5);
    Due.due("a 6th", Due.frame(x, "p0p0p0p0p0p0"), -4);
    Due.due("count(1)", x.count(1), 5);
    for (int i = 0; i < 5; i++) {
      Due.due("holes of " + i, x.desk(i, 0), i + 1);
    }
  }

  // "FULL (behind the FAULT)"
  static void p05FullIsBehindTheFault() {
    PhraseMoods x = withFiveFrames();
    Due.due("no hole", x.frame(), -100);
    Due.due("an x", Due.frame(x, "p0x"), -102);
    Due.due("a group without n", Due.frame(x, "v0"), -102);
    Due.due("none", Due.frame(x, "p0"), -4);
  }

  // A FAULT and FULL leave the FRAMES as they are.
  static void p05FaultChangesNoFrame() {
    PhraseMoods x = withFiveFrames();
    Due.frame(x, "f00n00x");
    Due.frame(x, "f00n00");
    Due.due("hole 0 of 4", x.hole(4, 0, 3), 19);
    Due.due("hole 0 of 0", x.hole(0, 0, 0), 0);
    Due.due("hole 1 of 1", x.hole(1, 1, 0), 1);
  }

  // ---- promise 9: hole

  private static PhraseMoods withHoles() {
    PhraseMoods x = Due.small();
    Due.frame(x, "f21n23v2p0n10v1");
    Due.frame(x, "p0");
    return x;
  }

  static void p09FrameThatIsNoneIsBad() {
    PhraseMoods x = withHoles();
    for (int frame : new int[] {-1, 2, 4, 5, MIN, MAX}) {
      for (int what = 0; what < 5; what++) {
        Due.due("hole(" + frame + ", 0, " + what + ")", x.hole(frame, 0, what), -2);
      }
    }
  }

  static void p09WhatOutside0To4IsBad() {
    PhraseMoods x = withHoles();
    for (int what : new int[] {-1, 5, MIN, MAX}) {
      Due.due("hole(0, 0, " + what + ")", x.hole(0, 0, what), -2);
    }
  }

  static void p09HoleOutsideIsOutside() {
    PhraseMoods x = withHoles();
    for (int what = 0; what < 5; what++) {
      for (int i : new int[] {-1, 6, 7, MIN, MAX}) {
        Due.due("hole(0, " + i + ", " + what + ")", x.hole(0, i, what), -12);
      }
      Due.due("hole(1, 1, " + what + ")", x.hole(1, 1, what), -12);
      Due.due("hole(1, -1, " + what + ")", x.hole(1, -1, what), -12);
    }
  }

  static void p09BadIsAheadOfOutside() {
    PhraseMoods x = withHoles();
    Due.due("what 5", x.hole(0, 6, 5), -2);
    Due.due("what -1", x.hole(0, -1, -1), -2);
    Due.due("frame 2", x.hole(2, 9, 0), -2);
  }

  // "which (what 0: 0 n, 1 v, 2 f, 3 p)"
  static void p09WhichHole() {
    holesAre(0, 2, 0, 1, 3, 0, 1);
  }

  // "GROUP (1; NONE: p)"
  static void p09GroupAndNoneOfAP() {
    holesAre(1, 2, 2, 2, -1, 1, 1);
  }

  // "CASE (2; NONE: v, p)"
  static void p09CaseAndNoneOfAVAndAP() {
    holesAre(2, 1, 3, -1, -1, 0, -1);
  }

  // "WORD of a p (3; NONE)"
  static void p09WordOfAPAndNoneOfTheOthers() {
    holesAre(3, -1, -1, -1, 0, -1, -1);
    PhraseMoods x = many();
    Due.frame(x, "p19n00");
    Due.due("word 19", x.hole(0, 0, 3), 19);
    Due.due("none", x.hole(0, 1, 3), -1);
  }

  // "how many WORDS can be there (4; of a p 1)": n has NOUNS and NAMES, v VERBS and MODALS, f FITTING ones
  static void p09HowManyWords() {
    holesAre(4, 1, 3, 2, 1, 3, 2);
  }

  private static void holesAre(int what, int... due) {
    PhraseMoods x = withHoles();
    for (int i = 0; i < due.length; i++) {
      Due.due("hole(0, " + i + ", " + what + ")", x.hole(0, i, what), due[i]);
    }
  }

  static void p09NoWordCanBeThere() {
    PhraseMoods x = new PhraseMoods();
    Due.word(x, "w", 0, 0, 0);
    Due.frame(x, "n00v0f00p0");
    for (int i = 0; i < 4; i++) {
      Due.due("hole " + i, x.hole(0, i, 4), i == 3 ? 1 : 0);
    }
  }

  static void p09OfAPThereIsOneAmongMany() {
    PhraseMoods x = many();
    Due.frame(x, "p0p0");
    Due.due("five plain ones", x.hole(0, 0, 4), 1);
    Due.due("the same again", x.hole(0, 1, 4), 1);
  }

  // WORDS that come later can be there, too.
  static void p09WordsOfNow() {
    PhraseMoods x = new PhraseMoods();
    Due.frame(x, "n00v0f00");
    for (int kind = 0; kind < 6; kind++) {
      Due.word(x, "w", kind, 0, 0);
      Due.due("n by kind " + kind, x.hole(0, 0, 4), kind < 1 ? 0 : kind < 3 ? 1 : 2);
      Due.due("v by kind " + kind, x.hole(0, 1, 4), kind < 2 ? 0 : kind < 5 ? 1 : 2);
      Due.due("f by kind " + kind, x.hole(0, 2, 4), kind < 4 ? 0 : 1);
    }
  }

  static void p09TwentyWords() {
    PhraseMoods x = new PhraseMoods();
    for (int i = 0; i < 20; i++) {
      Due.word(x, "w", i % 2 == 0 ? 1 : 3, 0, 0);
    }
    Due.frame(x, "n00");
    Due.due("all can be there", x.hole(0, 0, 4), 20);
  }
}
