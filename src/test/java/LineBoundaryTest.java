/** Boundaries of THE LINE: promises 2 and 3, and what 'Terms' says of WORDS, NUMBERS, SIGNS, blanks and NAMES. */
public final class LineBoundaryTest {
    private static final int BLANKS = 0x20202020;
    private static final String[] KEPT = "fun int row let in if then else end len new out".split(" ");
    private static final Bench BENCH = new Bench("LineBoundaryTest");

    public static void main(String[] args) {
        atMost480();
        twentyAtOnceNear480();
        everyByteIsACharacter();
        everyByteIsOneTooMany();
        signsAlone();
        highestByteFirst();
        byteZeroIsNone();
        tooManyChangesNothing();
        staysTillErase();
        eraseTellsHowMany();
        wordsOfOneToSix();
        numbersOfOneToThree();
        theLongestSignIsTaken();
        signsThatAreNotJoined();
        blanksAre32Alone();
        blanksMayStandAnywhere();
        blanksMayBeLeftOut();
        namesAreNotKeptWords();
        namesThatAreNearKeptWords();
        BENCH.end();
    }

    /** A new object whose LINE is so many blanks. */
    private static IndexedCompiler filled(String sentence, int many) {
        IndexedCompiler c = BENCH.sentence(sentence);
        BENCH.due("filled", BENCH.type(" ".repeat(many)), many);
        return c;
    }

    private static void atMost480() {
        IndexedCompiler c = filled("THE LINE: at most 480 characters", 479);
        BENCH.due("479", c.type(0, 0, 0, 0, 0), 479);
        BENCH.due("480", c.type(0, 0, 0, 0, ' '), 480);
        BENCH.dueThrow("481", Bench.STATE, () -> c.type(0, 0, 0, 0, ' '));
        BENCH.due("still 480", c.erase(), 480);
    }

    private static void twentyAtOnceNear480() {
        String sentence = "type: IllegalState: it would have more than 480";
        BENCH.due("459 and 20", filled(sentence, 459).type(BLANKS, BLANKS, BLANKS, BLANKS, BLANKS), 479);
        BENCH.due("460 and 20", filled(sentence, 460).type(BLANKS, BLANKS, BLANKS, BLANKS, BLANKS), 480);
        IndexedCompiler c = filled(sentence, 461);
        BENCH.dueThrow("461 and 20", Bench.STATE, () -> c.type(BLANKS, BLANKS, BLANKS, BLANKS, BLANKS));
        BENCH.due("nothing was typed", c.type(0, 0, 0, 0, 0), 461);
        BENCH.due("461 and 19", c.type(BLANKS, BLANKS, 0x20002020, BLANKS, BLANKS), 480);
    }

    private static void everyByteIsACharacter() {
        IndexedCompiler c = BENCH.sentence("type: up to twenty characters more, four in each number");
        for (int place = 0; place < 20; place++) {
            int[] five = new int[5];
            five[place / 4] = 'x' << 24 - 8 * (place % 4);
            BENCH.due("byte " + place, c.type(five[0], five[1], five[2], five[3], five[4]), 1);
            BENCH.due("one", c.erase(), 1);
        }
        BENCH.due("none", c.type(0, 0, 0, 0, 0), 0);
        BENCH.due("twenty", c.type(BLANKS, BLANKS, BLANKS, BLANKS, BLANKS), 20);
        BENCH.due("twenty more, of 1", c.type(0x01010101, 0x01010101, 0x01010101, 0x01010101, 0x01010101), 40);
        BENCH.due("twenty more, of 255", c.type(-1, -1, -1, -1, -1), 60);
    }

    private static void everyByteIsOneTooMany() {
        IndexedCompiler c = filled("type: IllegalState: it would have more than 480, by any one character", 480);
        for (int place = 0; place < 20; place++) {
            for (int bit = 0; bit < 8; bit++) {
                int[] five = new int[5];
                five[place / 4] = 1 << 24 - 8 * (place % 4) + bit;
                BENCH.dueThrow("bit " + bit + " at " + place, Bench.STATE, () -> c.type(five[0], five[1], five[2], five[3],
                    five[4]));
            }
        }
        BENCH.due("still 480", c.erase(), 480);
    }

    private static void signsAlone() {
        IndexedCompiler c = BENCH.sentence("a LINE of 480 SIGNS");
        BENCH.due("typed", BENCH.type("(".repeat(480)), 480);
        BENCH.due("define", c.define(), IndexedCompiler.SIGN);
        BENCH.due("place", c.place(), 0);
        c.erase();
        String text = "fun f():int=" + "(".repeat(11) + "1";
        BENCH.type(text + ";1".repeat((480 - text.length()) / 2));
        BENCH.due("define", c.define(), IndexedCompiler.SIGN);
        BENCH.due("it ends too soon", c.place(), 480);
    }

    private static void highestByteFirst() {
        IndexedCompiler c = BENCH.sentence("type: the highest byte first");
        BENCH.due("typed", c.type(0x66756e20, 0x6628293a, 0x696e743d, 0x37000000, 0), 13);
        BENCH.due("it is fun f():int=7", c.define(), 0);
        c.erase();
        c.type(0x206e7566, 0x3a292866, 0x3d746e69, 0x37, 0);
        BENCH.due("the other way it is none", c.define(), IndexedCompiler.SIGN);
    }

    private static void byteZeroIsNone() {
        IndexedCompiler c = BENCH.sentence("type: a byte 0 is none");
        BENCH.due("fu", c.type(0x66007500, 0, 0, 0, 0), 2);
        BENCH.due("n f", c.type(0, 0x006e0020, 0, 0x66, 0), 5);
        BENCH.due("():int=7", c.type(0x28, 0x29000000, 0x00003a69, 0x6e74003d, 0x00370000), 13);
        BENCH.due("they stand together", c.define(), 0);
    }

    private static void tooManyChangesNothing() {
        IndexedCompiler c = BENCH.sentence("What throws changes nothing (type)");
        String text = "fun f(): int = 1" + " ".repeat(463);
        BENCH.due("479", BENCH.type(text), 479);
        BENCH.dueThrow("two more", Bench.STATE, () -> c.type('+' << 24, 0, 0, 0, '1'));
        BENCH.due("still 479", c.type(0, 0, 0, 0, 0), 479);
        BENCH.due("neither of them was typed", c.define(), 0);
    }

    private static void staysTillErase() {
        IndexedCompiler c = BENCH.sentence("THE LINE stays till erase()");
        BENCH.type("fun f(): int = 1");
        BENCH.due("define", c.define(), 0);
        BENCH.due("define of the same line", c.define(), IndexedCompiler.SAME);
        c.check();
        c.run(0, 0, 9);
        c.clear();
        BENCH.due("behind clear", c.type(0, 0, 0, 0, 0), 16);
        BENCH.due("define once more", c.define(), 0);
        BENCH.due("one sign more", c.type(0, 0, 0, 0, ')'), 17);
        BENCH.due("SIGN", c.define(), IndexedCompiler.SIGN);
        BENCH.due("behind SIGN", c.type(0, 0, 0, 0, 0), 17);
        BENCH.due("erase", c.erase(), 17);
        BENCH.due("nothing", c.type(0, 0, 0, 0, 0), 0);
    }

    private static void eraseTellsHowMany() {
        IndexedCompiler c = BENCH.sentence("erase: THE LINE is empty: how many it had");
        BENCH.due("of none", c.erase(), 0);
        c.type(0, 0, 0, 0, 'x');
        BENCH.due("of one", c.erase(), 1);
        BENCH.due("of none again", c.erase(), 0);
        BENCH.type(" ".repeat(480));
        BENCH.due("of 480", c.erase(), 480);
        BENCH.due("empty", c.define(), IndexedCompiler.SIGN);
        BENCH.due("it ends too soon at 0", c.place(), 0);
        BENCH.due("room for all again", BENCH.type(" ".repeat(480)), 480);
    }

    private static void wordsOfOneToSix() {
        BENCH.sentence("WORDS are small letters that stand together, one to six");
        BENCH.dueFunctions("fun a(): int = 1", "fun z(): int = 1", "fun azazaz(): int = 1", "fun f(zzzzzz: int): int = zzzzzz");
        BENCH.dueSigns("fun ^abcdefg(): int = 1", "fun f(^abcdefg: int): int = 1", "fun f{^abcdefg}(): int = 1",
            "fun f(): int = let ^abcdefg = 1 in 1", "fun f(): int = ^abcdefg", "fun f(): int(^abcdefg) = 1",
            "fun f(): int = " + "^" + "x".repeat(40), "^funfunf f(): int = 1",
            // Of 13 letters the last six, and as many, would make a WORD that can be there.
            "fun ^aaaaaaaaaaaab(): int = 1", "^aaaaaaafun f(): int = 1");
        BENCH.dueSigns("fun ^A(): int = 1", "fun ^Z(): int = 1", "fun a^A(): int = 1", "fun ^`(): int = 1", "fun ^@(): int = 1",
            "fun a^_b(): int = 1", "fun ^~(): int = 1");
    }

    private static void numbersOfOneToThree() {
        BENCH.sentence("NUMBERS are digits that stand together, one to three");
        BENCH.dueFunctions("fun f(): int = 0", "fun f(): int = 9", "fun f(): int = 000", "fun f(): int = 999",
            "fun f{n}(): int(999*n + 999) = 1", "fun f(): int = 1/999");
        BENCH.dueSigns("fun f(): int = ^1000", "fun f(): int = ^0001", "fun f(): int = 1 + ^0000", "fun f{n}(): int(^1000*n) = 1",
            "fun f{n}(): int(n + ^1000) = 1", "fun f(): int = 1/^1000", "fun f(): int = 1 ^1", "fun f(): int = 12 ^345",
            "fun f(): int = ^" + "1".repeat(40), "fun f(): int = ^4294967297", "fun f(): int = ^.");
        for (int number : new int[] {0, 1, 10, 100, 999}) {
            BENCH.dueCheck(1, "fun f(): int(" + number + ") = " + number);
            BENCH.c.run(0, 0, 9);
            BENCH.due("its number", BENCH.c.told(1), number);
        }
    }

    private static void theLongestSignIsTaken() {
        BENCH.sentence(":= <= >= being one SIGN each (the longest that can be is taken)");
        BENCH.dueFunctions("fun f(x: int): int = if x<=1 then 1 else 2 end", "fun f(x: int): int = if x>=1 then 1 else 2 end",
            "fun f(a: row(1)): int = a[0]:=1", "fun f{n|n<=1&n>=1}():int=1");
        BENCH.dueSigns("fun f() ^:=1", "fun f()^:=int=1", "fun f(x: int): int = let x^:=1 in x", "fun f(): int ^<= 1",
            "fun f(): int ^>= 1", "fun f(): int = (1 ^:=int)", "fun f(x^:=int): int = 1",
            "fun f(x: int): int = if x<=^=1 then 1 else 2 end", "fun f(x: int): int = if x>=^>1 then 1 else 2 end",
            "fun f(a: row(1)): int = a[0]:=^=1", "fun f(a: row(1)): int = a[0]^<=1");
    }

    private static void signsThatAreNotJoined() {
        BENCH.sentence("SIGNS that a blank parts are two");
        BENCH.dueSigns("fun f(x: int): int = if x < ^= 1 then 1 else 2 end", "fun f(x: int): int = if x > ^= 1 then 1 else 2 end",
            "fun f(a: row(1)): int = a[0] ^: = 1", "fun f(x: int): int = if x =^< 1 then 1 else 2 end",
            "fun f(x: int): int = if x =^> 1 then 1 else 2 end", "fun f(x: int): int = if x <^> 1 then 1 else 2 end",
            "fun f(x: int): int = if x <^< 1 then 1 else 2 end", "fun f(): ^=: int = 1", "fun f(): int =^= 1");
        BENCH.dueFunctions("fun f():int=1", "fun f(x:int):int=if x<1 then 1 else 2 end",
            "fun f(x:int):int=if x>1 then 1 else 2 end");
    }

    private static void blanksAre32Alone() {
        BENCH.sentence("Blanks (32 alone)");
        for (int sign = 1; sign < 256; sign++) {
            String other = String.valueOf((char) sign);
            if (sign == ' ') {
                BENCH.dueFunctions(other + "fun f(): int = 1", "fun" + other + "f(): int = 1", "fun f(): int = 1" + other);
            } else if (other.indexOf('^') < 0 && !isLetterOrDigit(sign)) {
                BENCH.dueSigns("^" + other + "fun f(): int = 1", "fun^" + other + "f(): int = 1");
                if ("+-*/;[{(".indexOf(sign) < 0) {
                    BENCH.dueSigns("fun f(): int = 1^" + other);
                }
            }
        }
    }

    private static boolean isLetterOrDigit(int sign) {
        return sign >= 'a' && sign <= 'z' || sign >= '0' && sign <= '9';
    }

    private static void blanksMayStandAnywhere() {
        BENCH.sentence("Blanks may stand before, between and behind these");
        String wide = "  fun  f  {  n  |  n  <=  1  &  2  *  n  >  3  }  (  a  :  row  (  n  )  ,  x  :  int  {  i  |  i  <  1  }  )  :  int  =  "
            + "a  [  x  ]  :=  len  a  ;  (  1  :  int  (  1  )  )  ;  f  {  n  }  (  a  ,  0  )  ";
        BENCH.dueFunctions(wide, wide.replace("  ", " "));
        BENCH.dueSigns("^fu n f(): int = 1", "fun f(): ^i nt = 1",
            "fun f(): int = 1 ^0");
    }

    private static void blanksMayBeLeftOut() {
        BENCH.sentence("WORDS and NUMBERS end where the other begins");
        BENCH.dueFunctions("fun f(x:int):int=if 1<2then 3else 4end", "fun f():row(1)=new1", "fun f():int=let x=1in 2",
            "fun f():int=out1+out2");
        BENCH.dueSigns("^funf():int=1", "fun f():int=letx^=1 in x", "fun f(): int = 1^x", "fun f^1(): int = 1",
            "fun f(): int = x^1");
    }

    private static void namesAreNotKeptWords() {
        BENCH.sentence("NAMES are all WORDS but fun int row let in if then else end len new out");
        for (String kept : KEPT) {
            BENCH.dueSigns("fun ^" + kept + "(): int = 1", "fun f{^" + kept + "}(): int = 1", "fun f(^" + kept
                + ": int): int = 1",
                "fun f(): int = let ^" + kept + " = 1 in 1", "fun f(): int(^" + kept + ") = 1", "fun f(): int = len ^" + kept,
                "fun f(): int{^" + kept + " | 1 < 2} = 1");
        }
    }

    private static void namesThatAreNearKeptWords() {
        BENCH.sentence("NAMES are all other WORDS");
        for (String kept : KEPT) {
            for (String near : new String[] {kept + "s", "x" + kept, kept.substring(1), kept + kept.charAt(0)}) {
                BENCH.dueCheck(1, "fun " + near + "(" + near + ": int): int(" + near + ") = let " + near + " = " + near + " in "
                + near);
            }
        }
    }
}
