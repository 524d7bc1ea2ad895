/**
 * The boundary cases of promises 10 to 14, and of what the terms say of THE DESK, of what a FRAME SAYS and of SPOKEN: a
 * test for each sentence, named by its promise. What stands in quotes are the document's words.
 */
final class BoundsOfSpeechTest {
  private static final int MIN = Integer.MIN_VALUE, MAX = Integer.MAX_VALUE;

  public static void main(String[] args) {
    Due.runAll(BoundsOfSpeechTest.class);
  }

  private static PhraseMoods withFrames() {
    PhraseMoods x = Due.small();
    Due.frame(x, "n00v0");
    Due.frame(x, "f00n00v0p0n10v1");
    return x;
  }

  private static int bits(float f) {
    return Float.floatToIntBits(f);
  }

  // ---- promise 10: desk

  static void p10FrameThatIsNoneIsBad() {
    PhraseMoods x = withFrames();
    for (int frame : new int[] {-1, 2, 4, 5, MIN, MAX}) {
      Due.due("desk(" + frame + ", 0)", x.desk(frame, 0), -2);
    }
    Due.due("no frame came", x.number(0, 0), -3);
    Due.due("desk(1, 0)", x.desk(1, 0), 6);
  }

  // "MOOD (0 .. 3)"
  static void p10MoodOutside0To3IsBad() {
    PhraseMoods x = withFrames();
    for (int mood : new int[] {-1, 4, MIN, MAX}) {
      Due.due("desk(0, " + mood + ")", x.desk(0, mood), -2);
    }
    Due.due("no frame came", x.number(0, 0), -3);
    Due.due("desk(0, 3)", x.desk(0, 3), 2);
    Due.due("desk(0, 0)", x.desk(0, 0), 2);
  }

  static void p10BadChangesNothing() {
    PhraseMoods x = withFrames();
    x.desk(0, 2);
    x.choose(0, 2);
    x.number(0, 1);
    Due.due("mood 4", x.desk(1, 4), -2);
    Due.due("frame 2", x.desk(2, 0), -2);
    Due.dueText("what is said", Due.said(x), "lopes cani");
    Due.due("number", x.number(0, 1), 1);
  }

  // "how many HOLES"
  static void p10HowManyHolesFrom1To6() {
    PhraseMoods x = Due.small();
    for (int holes = 1; holes <= 5; holes++) {
      Due.frame(x, "p0".repeat(holes));
      Due.due("desk of " + holes, x.desk(holes - 1, 0), holes);
    }
    PhraseMoods y = withFrames();
    Due.due("desk of 6", y.desk(1, 0), 6);
  }

  // "the least WORDS"
  static void p10LeastWordsThatCouldBeThere() {
    PhraseMoods x = new PhraseMoods();
    int[] kinds = {0, 5, 2, 4, 3, 1, 4, 0};
    for (int i = 0; i < kinds.length; i++) {
      Due.word(x, "" + (char) ('b' + i), kinds[i], 0, 0);
    }
    Due.frame(x, "n00v0f00p7");
    x.desk(0, 0);
    Due.due("n: the name, for it is less than the noun", x.choose(0, 5), 4);
    Due.due("v: the modal, for it is less than the verb", x.choose(1, 2), 1);
    Due.due("f", x.choose(2, 6), 3);
    Due.due("p: its word, though there is a less one", x.choose(3, 7), 7);
  }

  // "if any": NONE
  static void p10NoWordCouldBeThere() {
    PhraseMoods x = new PhraseMoods();
    Due.word(x, "w", 1, 0, 0);
    Due.frame(x, "n00v0f00");
    Due.due("desk", x.desk(0, 0), 3);
    Due.due("said", x.said(-1), 0);
    Due.due("n", x.choose(0, 0), 0);
    Due.word(x, "v", 2, 0, 0);
    Due.word(x, "f", 4, 0, 0);
    Due.due("v", x.choose(1, 1), -1);
    Due.due("f", x.choose(2, 2), -1);
    Due.dueText("said", Due.said(x), "w v fo");
  }

  // "the least WORD that could be there as desk() was called"
  static void p10WordsOfLaterAreNotThere() {
    PhraseMoods x = new PhraseMoods();
    Due.word(x, "w", 1, 0, 0);
    Due.frame(x, "n00v0");
    x.desk(0, 0);
    Due.word(x, "v", 2, 0, 0);
    Due.due("said", x.said(-1), 0);
    Due.due("count(3)", x.count(3), 0);
    Due.due("desk again", x.desk(0, 0), 2);
    Due.dueText("now it is there", Due.said(x), "w v");
  }

  // "NUMBERS 0"
  static void p10NumbersBecome0() {
    PhraseMoods x = withFrames();
    x.desk(1, 0);
    for (int group = 0; group < 3; group++) {
      x.number(group, 1);
    }
    x.desk(1, 0);
    for (int group = 0; group < 3; group++) {
      Due.due("number of " + group, x.number(group, 0), 0);
    }
  }

  // THE DESK gets "a MOOD" anew, and the least WORDS anew, also by the same FRAME.
  static void p10SameFrameAnew() {
    PhraseMoods x = withFrames();
    x.desk(0, 2);
    x.choose(0, 4);
    x.choose(1, 6);
    Due.due("desk", x.desk(0, 0), 2);
    Due.dueText("said", Due.said(x), "gat cana");
  }

  // ---- promise 11: choose

  static void p11WordThatIsNoneIsBad() {
    PhraseMoods x = withFrames();
    x.desk(0, 0);
    for (int word : new int[] {-1, -2, 7, 19, 20, MIN, MAX}) {
      Due.due("choose(0, " + word + ")", x.choose(0, word), -2);
    }
    Due.dueText("it stays", Due.said(x), "gat cana");
  }

  static void p11NoFrameIsState() {
    PhraseMoods x = withFrames();
    Due.due("choose(0, 1)", x.choose(0, 1), -3);
    Due.due("choose(0, 2)", x.choose(0, 2), -3);
  }

  static void p11BadIsAheadOfState() {
    PhraseMoods x = withFrames();
    Due.due("no word, no frame", x.choose(0, 7), -2);
    Due.due("NONE, no frame, no hole", x.choose(9, -1), -2);
  }

  static void p11StateIsAheadOfOutside() {
    PhraseMoods x = withFrames();
    Due.due("hole 9", x.choose(9, 1), -3);
    Due.due("hole -1", x.choose(-1, 1), -3);
  }

  static void p11HoleOutsideIsOutside() {
    PhraseMoods x = withFrames();
    x.desk(0, 0);
    for (int i : new int[] {-1, 2, 5, 6, MIN, MAX}) {
      Due.due("choose(" + i + ", 1)", x.choose(i, 1), -12);
    }
    x.desk(1, 0);
    Due.due("choose(5, 3)", x.choose(5, 3), 3);
    Due.due("choose(6, 3)", x.choose(6, 3), -12);
  }

  static void p11BadIsAheadOfOutside() {
    PhraseMoods x = withFrames();
    x.desk(0, 0);
    Due.due("no word, no hole", x.choose(2, 7), -2);
  }

  static void p11OutsideIsAheadOfUnlike() {
    PhraseMoods x = withFrames();
    x.desk(0, 0);
    Due.due("a plain one, no hole", x.choose(2, 0), -12);
  }

  // "-13: it can't be there": n has a NOUN or a NAME, "no FITTING one"
  static void p11NHasNounsAndNames() {
    holeHas(0, 1, 3);
  }

  static void p11VHasVerbsAndModals() {
    holeHas(1, 2, 5);
  }

  static void p11FHasFittingOnes() {
    holeHas(2, 4, 4);
  }

  private static void holeHas(int hole, int kind, int other) {
    PhraseMoods x = new PhraseMoods();
    for (int k = 0; k < 6; k++) {
      Due.word(x, "w", k, 0, 0);
    }
    Due.frame(x, "n00v0f00");
    x.desk(0, 0);
    int there = kind;
    for (int k = 0; k < 6; k++) {
      boolean has = k == kind || k == other;
      Due.due("kind " + k, x.choose(hole, k), has ? there : -13);
      there = has ? k : there;
    }
    Due.due("the last that could stays", x.choose(hole, kind), there);
  }

  // "p: its WORD"
  static void p11PHasItsWordAlone() {
    PhraseMoods x = new PhraseMoods();
    for (int k = 0; k < 3; k++) {
      Due.word(x, "w" + "klm".charAt(k), 0, 0, 0);
    }
    Due.frame(x, "p1");
    x.desk(0, 0);
    Due.due("another plain one", x.choose(0, 0), -13);
    Due.due("another plain one", x.choose(0, 2), -13);
    Due.due("its word", x.choose(0, 1), 1);
    Due.dueText("said", Due.said(x), "wl");
  }

  // "the one that was there (NONE)"
  static void p11TheOneThatWasThere() {
    PhraseMoods x = new PhraseMoods();
    Due.frame(x, "n00");
    x.desk(0, 0);
    Due.word(x, "k", 1, 0, 0);
    Due.word(x, "l", 1, 0, 0);
    Due.due("none", x.choose(0, 1), -1);
    Due.due("1", x.choose(0, 0), 1);
    Due.due("0", x.choose(0, 0), 0);
  }

  static void p11OneHoleAlone() {
    PhraseMoods x = withFrames();
    x.desk(1, 0);
    x.choose(4, 2);
    Due.dueText("hole 4", Due.said(x), "bela gat cana and lope cana");
    x.choose(1, 4);
    Due.dueText("hole 1", Due.said(x), "bela ana cana and lope cana");
  }

  // ---- promise 12: number

  // "GROUP (0 .. 2)"
  static void p12GroupOutside0To2IsBad() {
    PhraseMoods x = withFrames();
    x.desk(0, 0);
    for (int group : new int[] {-1, 3, 31, 32, MIN, MAX}) {
      Due.due("number(" + group + ", 1)", x.number(group, 1), -2);
    }
    for (int group = 0; group < 3; group++) {
      Due.due("number(" + group + ", 1)", x.number(group, 1), 0);
    }
  }

  // "NUMBER 0, 1"
  static void p12NumberOutside0To1IsBad() {
    PhraseMoods x = withFrames();
    x.desk(0, 0);
    for (int n : new int[] {-1, 2, MIN, MAX}) {
      Due.due("number(0, " + n + ")", x.number(0, n), -2);
    }
    Due.due("it stays", x.number(0, 1), 0);
    Due.due("bad", x.number(0, 2), -2);
    Due.due("it stays", x.number(0, 0), 1);
  }

  static void p12NoFrameIsState() {
    PhraseMoods x = withFrames();
    Due.due("number(0, 0)", x.number(0, 0), -3);
    Due.due("number(2, 1)", x.number(2, 1), -3);
    x.desk(0, 0);
    Due.due("nothing changed", x.number(2, 0), 0);
  }

  static void p12BadIsAheadOfState() {
    PhraseMoods x = withFrames();
    Due.due("group 3", x.number(3, 0), -2);
    Due.due("group -1", x.number(-1, 0), -2);
    Due.due("number 2", x.number(0, 2), -2);
  }

  // "what it was": of that GROUP alone, also of one that the FRAME has not
  static void p12EachGroupHasItsOwn() {
    PhraseMoods x = withFrames();
    x.desk(0, 0);
    for (int set = 0; set < 3; set++) {
      x.desk(0, 0);
      Due.due("it was 0", x.number(set, 1), 0);
      for (int group = 0; group < 3; group++) {
        Due.due("group " + group + " by " + set, x.number(group, group == set ? 1 : 0), group == set ? 1 : 0);
      }
      Due.due("it was 1", x.number(set, 0), 1);
      Due.due("it was 0", x.number(set, 0), 0);
    }
  }

  // ---- promise 13: said

  static void p13NothingIsSaidWithoutAFrame() {
    PhraseMoods x = withFrames();
    Due.due("said(-1)", x.said(-1), 0);
    Due.due("said(0)", x.said(0), -12);
    Due.due("said(-2)", x.said(-2), -12);
  }

  // "nothing, if it isn't all FILLED": each HOLE counts
  static void p13NothingIsSaidIfAnyHoleIsEmpty() {
    String[] frames = {"f00n00p0", "n00f00p0", "n00p0f00"};
    for (String f : frames) {
      PhraseMoods x = new PhraseMoods();
      Due.word(x, "and", 0, 0, 0);
      Due.word(x, "gat", 1, 0, 0);
      Due.frame(x, f);
      x.desk(0, 0);
      Due.due("said(-1) of " + f, x.said(-1), 0);
      Due.due("said(0) of " + f, x.said(0), -12);
      Due.due("count(3) of " + f, x.count(3), 0);
      Due.due("spoken of " + f, x.spoken(1), 0);
    }
  }

  // "how long (k -1), byte k"; "-12"
  static void p13ByteOutsideIsOutside() {
    PhraseMoods x = withFrames();
    x.desk(0, 0);
    Due.due("how long", x.said(-1), 8);
    Due.due("the first", x.said(0), 'g');
    Due.due("the last", x.said(7), 'a');
    for (int k : new int[] {8, 9, -2, MIN, MAX}) {
      Due.due("byte " + k, x.said(k), -12);
    }
  }

  // "FORMS, one blank between": none ahead, none behind
  static void p13OneBlankBetween() {
    PhraseMoods x = withFrames();
    Due.frame(x, "p0");
    x.desk(2, 0);
    Due.dueText("one form", Due.said(x), "and");
    x.desk(0, 0);
    Due.due("a blank", x.said(3), 32);
    x.desk(1, 0);
    Due.dueText("six forms", Due.said(x), "bela gat cana and gat cana");
  }

  // Six of the longest FORMS: 6 letters, 3 and 1, with five blanks.
  static void p13LongestThatCanBeSaid() {
    PhraseMoods x = new PhraseMoods();
    Due.ending(x, "rst", 0, 0, 0);
    Due.ending(x, "rst", 0, 1, 0);
    Due.word(x, "kloubr", 1, 0, 0);
    Due.word(x, "kloubr", 4, 0, 1);
    Due.word(x, "kloubr", 5, 0, 0);
    Due.frame(x, "n00f00f01v0v0v0");
    x.desk(0, 1);
    String said = "kloubrrst kloubrrsto kloubrrsto kloubrrstt kloubrrstt kloubrrstt";
    Due.dueText("said", Due.said(x), said);
    Due.due("said(-1)", x.said(-1), 64);
    Due.due("said(63)", x.said(63), 't');
    Due.due("said(64)", x.said(64), -12);
  }

  // "n by its CASE; f by its CASE"
  static void p13EachByItsOwnCase() {
    PhraseMoods x = new PhraseMoods();
    for (int casus = 0; casus < 4; casus++) {
      Due.ending(x, "" + "rstv".charAt(casus), 0, casus, 0);
    }
    Due.word(x, "k", 1, 0, 0);
    Due.word(x, "l", 4, 0, 0);
    Due.frame(x, "n00f01f02f03");
    Due.frame(x, "n03f02f01f00");
    x.desk(0, 2);
    Due.dueText("0 to 3", Due.said(x), "kr lso lto lvo");
    x.desk(1, 2);
    Due.dueText("3 to 0", Due.said(x), "kv lto lso lro");
  }

  // "all by the NUMBER of their GROUP"
  static void p13NumberOfTheirGroup() {
    PhraseMoods x = new PhraseMoods();
    Due.ending(x, "s", 0, 0, 1);
    Due.word(x, "k", 1, 0, 0);
    Due.word(x, "v", 2, 0, 0);
    Due.frame(x, "n00n10n20v0v1v2");
    for (int bits = 0; bits < 8; bits++) {
      x.desk(0, 0);
      StringBuilder nouns = new StringBuilder();
      StringBuilder verbs = new StringBuilder();
      for (int group = 0; group < 3; group++) {
        x.number(group, bits >> group & 1);
        nouns.append((bits >> group & 1) == 1 ? "ks " : "k ");
        verbs.append((bits >> group & 1) == 1 ? "vs " : "v ");
      }
      Due.dueText("numbers " + bits, Due.said(x), (nouns.toString() + verbs).trim());
    }
  }

  // "the GENDER of the n's WORD of their GROUP": not the FITTING one's own, not another GROUP's
  static void p13GenderOfTheNOfTheirGroup() {
    PhraseMoods x = new PhraseMoods();
    for (int gender = 0; gender < 3; gender++) {
      Due.word(x, "" + "klm".charAt(gender), 1, 0, gender);
    }
    Due.word(x, "f", 4, 0, 2);
    Due.frame(x, "f00f10n10n00");
    for (int i = 0; i < 9; i++) {
      x.desk(0, 0);
      x.choose(3, i / 3);
      x.choose(2, i % 3);
      String due = "f" + "oae".charAt(i / 3) + " f" + "oae".charAt(i % 3) + " " + "klm".charAt(i % 3) + " " + "klm".charAt(i / 3);
      Due.dueText("genders " + i, Due.said(x), due);
    }
  }

  // ".. MOOD"
  static void p13MoodOfAllVerbs() {
    PhraseMoods x = new PhraseMoods();
    for (int mood = 0; mood < 4; mood++) {
      Due.ending(x, "" + "rstz".charAt(mood), 0, mood, 0);
    }
    Due.word(x, "k", 1, 1, 0);
    Due.word(x, "v", 2, 0, 0);
    Due.word(x, "m", 5, 0, 0);
    Due.frame(x, "n00v0v0");
    String[] due = {"k vr mr", "k vs mss", "k vt mtt", "k vz mzz"};
    for (int mood = 0; mood < 4; mood++) {
      x.desk(0, mood);
      x.choose(2, 2);
      Due.dueText("mood " + mood, Due.said(x), due[mood]);
    }
  }

  // "the NUMBER of a GROUP whose n's WORD is a NAME is 0 for all of it"
  static void p13NumberOfANamesGroupIs0ForAllOfIt() {
    PhraseMoods x = new PhraseMoods();
    Due.ending(x, "s", 0, 0, 1);
    Due.word(x, "k", 1, 0, 0);
    Due.word(x, "m", 3, 0, 0);
    Due.word(x, "v", 2, 0, 0);
    Due.word(x, "f", 4, 0, 0);
    Due.frame(x, "v0f00n00n10v1f10");
    x.desk(0, 0);
    x.number(0, 1);
    x.number(1, 1);
    Due.dueText("two nouns", Due.said(x), "vs fso ks ks vs fso");
    x.choose(2, 1);
    Due.dueText("a name in group 0", Due.said(x), "v fo m ks vs fso");
    x.choose(3, 1);
    Due.dueText("names in both", Due.said(x), "v fo m m v fo");
    x.choose(2, 0);
    Due.dueText("a name in group 1", Due.said(x), "vs fso ks m v fo");
  }

  // ---- promise 14: spoken

  // "a TEMPO (1 .. 99)"
  static void p14TempoOutside1To99IsBad() {
    PhraseMoods x = withFrames();
    x.desk(0, 0);
    for (int tempo : new int[] {0, 100, -1, -99, MIN, MAX}) {
      Due.due("spoken(" + tempo + ")", x.spoken(tempo), -2);
    }
    PhraseMoods y = new PhraseMoods();
    Due.due("without a frame, too", y.spoken(0), -2);
    Due.due("without a frame, too", y.spoken(100), -2);
  }

  static void p14Tempo1And99() {
    PhraseMoods x = new PhraseMoods();
    Due.word(x, "k", 0, 0, 0);
    Due.frame(x, "p0");
    x.desk(0, 0);
    Due.due("tempo 1", x.spoken(1), bits(4f));
    Due.due("tempo 99", x.spoken(99), bits(4f / 99f));
  }

  // "a float t, 0 at first": nothing is said
  static void p14NothingIsSpokenIn0() {
    PhraseMoods x = withFrames();
    Due.due("no frame", x.spoken(1), 0);
    Due.due("no frame", x.spoken(99), 0);
  }

  private static PhraseMoods says(String... words) {
    PhraseMoods x = new PhraseMoods();
    StringBuilder frame = new StringBuilder();
    for (int i = 0; i < words.length; i++) {
      Due.word(x, words[i], 0, 0, 0);
      frame.append('p').append(i);
    }
    Due.frame(x, frame.toString());
    x.desk(0, 0);
    return x;
  }

  // "7 for VOWELS, 9 for a blank, else 4"
  static void p14EachLetterAlone() {
    for (char c = 'a'; c <= 'z'; c++) {
      boolean isVowel = "aeiou".indexOf(c) >= 0;
      Due.due("" + c, says("" + c).spoken(1), bits(isVowel ? 7f : 4f));
    }
  }

  static void p14ABlankIs9() {
    Due.due("k l", says("k", "l").spoken(1), bits(4f + 9f + 4f));
  }

  // "a letter like the one ahead of it: X is times 0.75"
  static void p14LetterLikeTheOneAheadIsTimesThreeQuarters() {
    Due.due("kk", says("kk").spoken(1), bits(7f));
    Due.due("aa", says("aa").spoken(1), bits(12.25f));
    Due.due("kkk", says("kkk").spoken(1), bits(10f));
    Due.due("kkaa", says("kkaa").spoken(1), bits(19.25f));
  }

  static void p14FirstLetterHasNoneAhead() {
    Due.due("k", says("k").spoken(1), bits(4f));
    Due.due("a", says("a").spoken(1), bits(7f));
  }

  // The one ahead of a word's first letter is the blank.
  static void p14LikeLettersWithABlankBetweenAreWhole() {
    Due.due("k k", says("k", "k").spoken(1), bits(17f));
    Due.due("ak ka", says("ak", "ka").spoken(1), bits(7f + 4f + 9f + 4f + 7f));
  }

  static void p14LikeLettersWithAnotherBetweenAreWhole() {
    Due.due("kak", says("kak").spoken(1), bits(15f));
    Due.due("unlike vowels", says("ae").spoken(1), bits(14f));
  }

  // A MODAL's last letter that stands twice counts as any other.
  static void p14ModalsLastLetterIsLikeTheOneAhead() {
    PhraseMoods x = Due.small();
    Due.frame(x, "n00v0");
    x.desk(0, 1);
    x.choose(1, 6);
    Due.dueText("said", Due.said(x), "gat podee");
    Due.due("spoken", x.spoken(1), bits(15f + 9f + 4f + 7f + 4f + 7f + 5.25f));
  }

  // "all by floats, each step nearest": not by a double, not the sum by TEMPO
  static void p14EachStepIsAFloat() {
    String[] words = {"kloubr", "aabbcc", "iouaei", "zzzzzz", "strand", "oomeee"};
    PhraseMoods x = says(words);
    String line = String.join(" ", words);
    int unlikeSum = 0;
    int unlikeDouble = 0;
    for (int tempo = 1; tempo <= 99; tempo++) {
      float t = 0f;
      float sum = 0f;
      double d = 0;
      for (int i = 0; i < line.length(); i++) {
        char c = line.charAt(i);
        float v = "aeiou".indexOf(c) >= 0 ? 7f : c == ' ' ? 9f : 4f;
        if (i > 0 && line.charAt(i - 1) == c) {
          v = v * 0.75f;
        }
        t = t + v / tempo;
        sum = sum + v;
        d = d + (double) v / tempo;
      }
      Due.due("spoken(" + tempo + ")", x.spoken(tempo), bits(t));
      unlikeSum += bits(sum / tempo) != bits(t) ? 1 : 0;
      unlikeDouble += bits((float) d) != bits(t) ? 1 : 0;
    }
    Due.due("the line tells a sum apart", unlikeSum > 0 ? 1 : 0, 1);
    Due.due("the line tells a double apart", unlikeDouble > 0 ? 1 : 0, 1);
  }

  static void p14LongestTime() {
    PhraseMoods x = says("aeioua", "aeioua", "aeioua", "aeioua", "aeioua", "aeioua");
    Due.due("tempo 1", x.spoken(1), bits(6 * 6 * 7f + 5 * 9f));
  }
}
