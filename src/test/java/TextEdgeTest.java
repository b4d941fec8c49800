import java.util.NoSuchElementException;

/** The edges of the text: promises 1 to 7, sentence by sentence. */
final class TextEdgeTest {
    private static final int[] FAR = {Integer.MIN_VALUE, Integer.MIN_VALUE + 1, Integer.MAX_VALUE - 1, Integer.MAX_VALUE};
    private static final String[] WORDS = {"fn", "let", "if", "while", "print", "return", "main"};

    public static void main(String[] args) {
        newObject();
        codes();
        typed();
        fullByType();
        wordsThatFit();
        noSuchWord();
        insertPlaces();
        fullByInsert();
        orderOfInsert();
        removeNothingOrAll();
        removeTooMany();
        sumsThatWrap();
        orderOfRemove();
        lengths();
        letters();
        lastCalls();
        Check.finish();
    }

    /** A desk with something to lose: a text that is bound, and the output of a run. */
    private static ProgramDesk used() {
        ProgramDesk desk = Check.desk("fn main(n){print n;return n+1;}");
        desk.run(7);
        return desk;
    }

    private static ProgramDesk full() {
        ProgramDesk desk = used();
        while (desk.length() < 240) {
            desk.type(' ');
        }
        return desk;
    }

    private static void newObject() {
        Check.sentence("An empty text, which has no parts and no faults; nothing was run.");
        ProgramDesk desk = new ProgramDesk();
        Check.is("length", desk.length(), 0);
        Check.is("tokens", desk.tokens(), 0);
        Check.is("faults", desk.faults(), 0);
        Check.is("printed", desk.output(-1), 0);
        Check.is("given", desk.output(-2), 0);
        Check.refuses("letter(0)", IndexOutOfBoundsException.class, () -> desk.letter(0));
        Check.refuses("token(0, 0)", NoSuchElementException.class, () -> desk.token(0, 0));
        Check.refuses("fault(0)", NoSuchElementException.class, () -> desk.fault(0));
        Check.refuses("reference(0, 0)", NoSuchElementException.class, () -> desk.reference(0, 0));
        Check.refuses("rename(0, 1)", NoSuchElementException.class, () -> desk.rename(0, 1L));
        Check.refuses("inline(0)", NoSuchElementException.class, () -> desk.inline(0));
        Check.refuses("run(0)", NoSuchElementException.class, () -> desk.run(0));
        Check.refuses("output(0)", NoSuchElementException.class, () -> desk.output(0));
        Check.refuses("remove(0, 1)", IndexOutOfBoundsException.class, () -> desk.remove(0, 1));
        desk.remove(0, 0);
        Check.is("length afterwards", desk.length(), 0);
        ProgramDesk other = used();
        Check.is("another desk is not seen in a new one", Check.state(new ProgramDesk()), Check.state(desk));
        Check.is("nor a new one in it", other.output(-2), 8);
    }

    private static void codes() {
        Check.sentence("THE TEXT has at most 240 characters of the codes 32 to 126.");
        ProgramDesk desk = used();
        Check.saysNoAndKeeps("type code 31", desk, () -> desk.type((char) 31));
        Check.saysNoAndKeeps("type code 127", desk, () -> desk.type((char) 127));
        Check.is("type code 32", desk.type((char) 32), true);
        Check.is("type code 126", desk.type((char) 126), true);
        Check.is("what was typed", Check.text(desk), "fn main(n){print n;return n+1;} ~");
        Check.refusesAndKeeps("insert code 31", IllegalArgumentException.class, desk, () -> desk.insert(0, (char) 31));
        Check.refusesAndKeeps("insert code 127", IllegalArgumentException.class, desk, () -> desk.insert(0, (char) 127));
        desk.insert(33, (char) 32);
        desk.insert(34, (char) 126);
        Check.is("what was inserted", Check.text(desk), "fn main(n){print n;return n+1;} ~ ~");
        ProgramDesk any = new ProgramDesk();
        for (int code = 0; code <= 65535; code++) {
            char c = (char) code;
            boolean due = code >= 32 && code <= 126;
            any = code % 64 == 0 ? new ProgramDesk() : any;
            ProgramDesk one = any;
            Check.is("type code " + code, one.type(c), due);
            Check.is("insert code " + code, Check.outcome(() -> one.insert(0, c)), due ? "nothing thrown" : "IllegalArgumentException");
        }
    }

    private static void typed() {
        Check.sentence("Appends a character: true;");
        ProgramDesk desk = new ProgramDesk();
        Check.is("the first", desk.type('b'), true);
        Check.is("the second", desk.type(' '), true);
        Check.is("the third", desk.type('a'), true);
        Check.is("the text", Check.text(desk), "b a");
    }

    private static void fullByType() {
        Check.sentence("true; false when c is not of the codes said, or 240 are there.");
        ProgramDesk desk = used();
        while (desk.length() < 239) {
            desk.type(' ');
        }
        Check.is("the 240th", desk.type('z'), true);
        Check.is("its place", desk.letter(239), 'z');
        Check.saysNoAndKeeps("the 241st", desk, () -> desk.type('a'));
        Check.saysNoAndKeeps("the 241st, a blank", desk, () -> desk.type(' '));
        Check.saysNoAndKeeps("the 241st, of a wrong code", desk, () -> desk.type((char) 31));
        desk.remove(0, 1);
        Check.is("when there is room again", desk.type('y'), true);
        Check.is("its place then", desk.letter(239), 'y');
    }

    private static void wordsThatFit() {
        Check.sentence("Appends a word and a blank: w = 0 .. 5 the keywords in the order above, 6 main.");
        for (int w = 0; w < WORDS.length; w++) {
            int added = w;
            ProgramDesk desk = new ProgramDesk();
            Check.is("word " + w, desk.word(w), true);
            Check.is("the text of word " + w, Check.text(desk), WORDS[w] + " ");
            String before = Check.repeat(";", 240 - WORDS[w].length() - 1);
            ProgramDesk just = Check.desk(before);
            Check.is("word " + w + " just fits", just.word(w), true);
            Check.is("the full text", Check.text(just), before + WORDS[w] + " ");
            ProgramDesk tight = Check.desk(before + ";");
            Check.saysNoAndKeeps("word " + w + " without its blank", tight, () -> tight.word(added));
            ProgramDesk none = full();
            Check.saysNoAndKeeps("word " + w + " in a full text", none, () -> none.word(added));
        }
    }

    private static void noSuchWord() {
        Check.sentence("True; false when there is no such w, or it does not fit.");
        ProgramDesk desk = used();
        Check.saysNoAndKeeps("word -1", desk, () -> desk.word(-1));
        Check.saysNoAndKeeps("word 7", desk, () -> desk.word(7));
        for (int w : FAR) {
            Check.saysNoAndKeeps("word " + w, desk, () -> desk.word(w));
        }
        Check.is("word 0", desk.word(0), true);
        Check.is("word 6", desk.word(6), true);
        Check.is("the text", Check.text(desk), "fn main(n){print n;return n+1;}fn main ");
    }

    private static void insertPlaces() {
        Check.sentence("Puts c before place at (at the end, if at is the length).");
        ProgramDesk desk = new ProgramDesk();
        desk.insert(0, 'c');
        desk.insert(0, 'a');
        desk.insert(1, 'b');
        desk.insert(3, 'd');
        Check.is("the text", Check.text(desk), "abcd");
        Check.sentence("else IndexOutOfBoundsException when at is not 0 .. length");
        ProgramDesk kept = used();
        Check.refusesAndKeeps("at -1", IndexOutOfBoundsException.class, kept, () -> kept.insert(-1, 'x'));
        Check.refusesAndKeeps("at the length + 1", IndexOutOfBoundsException.class, kept, () -> kept.insert(32, 'x'));
        for (int at : FAR) {
            Check.refusesAndKeeps("at " + at, IndexOutOfBoundsException.class, kept, () -> kept.insert(at, 'x'));
        }
        kept.insert(31, 'x');
        kept.insert(0, 'y');
        Check.is("the first and the last place", Check.text(kept), "yfn main(n){print n;return n+1;}x");
        ProgramDesk empty = new ProgramDesk();
        Check.refusesAndKeeps("at 1 of nothing", IndexOutOfBoundsException.class, empty, () -> empty.insert(1, 'x'));
    }

    private static void fullByInsert() {
        Check.sentence("else IllegalStateException when 240 are there.");
        for (int at : new int[] {0, 100, 239}) {
            String before = Check.repeat("ab", 119) + "c";
            ProgramDesk desk = Check.desk(before);
            desk.insert(at, ';');
            Check.is("the 240th at " + at, Check.text(desk), before.substring(0, at) + ";" + before.substring(at));
        }
        ProgramDesk full = full();
        for (int at : new int[] {0, 100, 239, 240}) {
            Check.refusesAndKeeps("the 241st at " + at, IllegalStateException.class, full, () -> full.insert(at, 'x'));
        }
        full.remove(239, 1);
        full.insert(0, 'y');
        Check.is("when there is room again", full.length(), 240);
    }

    private static void orderOfInsert() {
        Check.sentence("IllegalArgumentException when c is not of the codes said; else IndexOutOfBoundsException when at is not 0 .. length; else IllegalStateException when 240 are there.");
        ProgramDesk full = full();
        Check.refusesAndKeeps("all three", IllegalArgumentException.class, full, () -> full.insert(241, (char) 127));
        Check.refusesAndKeeps("the first and the second", IllegalArgumentException.class, full, () -> full.insert(-1, (char) 31));
        Check.refusesAndKeeps("the first and the third", IllegalArgumentException.class, full, () -> full.insert(0, (char) 31));
        Check.refusesAndKeeps("the second and the third, above", IndexOutOfBoundsException.class, full, () -> full.insert(241, 'x'));
        Check.refusesAndKeeps("the second and the third, below", IndexOutOfBoundsException.class, full, () -> full.insert(-1, 'x'));
        Check.refusesAndKeeps("the third", IllegalStateException.class, full, () -> full.insert(240, 'x'));
        ProgramDesk desk = used();
        Check.refusesAndKeeps("the first and the second, with room", IllegalArgumentException.class, desk, () -> desk.insert(32, (char) 31));
    }

    private static void removeNothingOrAll() {
        Check.sentence("Takes n characters from place at on out.");
        ProgramDesk desk = used();
        String before = Check.state(desk);
        desk.remove(0, 0);
        desk.remove(15, 0);
        desk.remove(31, 0);
        Check.is("nothing taken out", Check.state(desk), before);
        desk.remove(0, 1);
        Check.is("the first one", Check.text(desk), "n main(n){print n;return n+1;}");
        desk.remove(29, 1);
        Check.is("the last one", Check.text(desk), "n main(n){print n;return n+1;");
        desk.remove(1, 27);
        Check.is("all but the first and the last", Check.text(desk), "n;");
        desk.remove(0, 2);
        Check.is("all", Check.text(desk), "");
        ProgramDesk full = Check.desk(Check.repeat("a", 240));
        full.remove(0, 240);
        Check.is("all 240", full.length(), 0);
    }

    private static void removeTooMany() {
        Check.sentence("else IndexOutOfBoundsException when at is below 0, or at + n above the length.");
        ProgramDesk desk = used();
        Check.refusesAndKeeps("at -1, none", IndexOutOfBoundsException.class, desk, () -> desk.remove(-1, 0));
        Check.refusesAndKeeps("at -1, one", IndexOutOfBoundsException.class, desk, () -> desk.remove(-1, 1));
        Check.refusesAndKeeps("at -1, all and one", IndexOutOfBoundsException.class, desk, () -> desk.remove(-1, 32));
        Check.refusesAndKeeps("none behind the end", IndexOutOfBoundsException.class, desk, () -> desk.remove(32, 0));
        Check.refusesAndKeeps("one at the end", IndexOutOfBoundsException.class, desk, () -> desk.remove(31, 1));
        Check.refusesAndKeeps("two at the last place", IndexOutOfBoundsException.class, desk, () -> desk.remove(30, 2));
        Check.refusesAndKeeps("one more than all", IndexOutOfBoundsException.class, desk, () -> desk.remove(0, 32));
        desk.remove(11, 20);
        Check.is("up to the end", Check.text(desk), "fn main(n){");
    }

    private static void sumsThatWrap() {
        Check.sentence("else IndexOutOfBoundsException when at is below 0, or at + n above the length.");
        ProgramDesk desk = used();
        int[] places = {0, 1, 31, 32, Integer.MAX_VALUE - 1, Integer.MAX_VALUE};
        int[] counts = {Integer.MAX_VALUE - 31, Integer.MAX_VALUE - 30, Integer.MAX_VALUE - 1, Integer.MAX_VALUE};
        for (int at : places) {
            for (int n : counts) {
                Check.refusesAndKeeps("remove(" + at + ", " + n + ")", IndexOutOfBoundsException.class, desk, () -> desk.remove(at, n));
            }
        }
        Check.refusesAndKeeps("greatest and 1", IndexOutOfBoundsException.class, desk, () -> desk.remove(Integer.MAX_VALUE, 1));
        Check.refusesAndKeeps("greatest and 0", IndexOutOfBoundsException.class, desk, () -> desk.remove(Integer.MAX_VALUE, 0));
        Check.refusesAndKeeps("least and 0", IndexOutOfBoundsException.class, desk, () -> desk.remove(Integer.MIN_VALUE, 0));
        Check.refusesAndKeeps("least and greatest", IndexOutOfBoundsException.class, desk,
            () -> desk.remove(Integer.MIN_VALUE, Integer.MAX_VALUE));
        Check.refusesAndKeeps("below 0 and greatest", IndexOutOfBoundsException.class, desk,
            () -> desk.remove(-Integer.MAX_VALUE, Integer.MAX_VALUE));
    }

    private static void orderOfRemove() {
        Check.sentence("IllegalArgumentException when n is below 0; else IndexOutOfBoundsException");
        ProgramDesk desk = used();
        Check.refusesAndKeeps("n -1", IllegalArgumentException.class, desk, () -> desk.remove(1, -1));
        Check.refusesAndKeeps("n least", IllegalArgumentException.class, desk, () -> desk.remove(0, Integer.MIN_VALUE));
        Check.refusesAndKeeps("both, below", IllegalArgumentException.class, desk, () -> desk.remove(-1, -1));
        Check.refusesAndKeeps("both, above", IllegalArgumentException.class, desk, () -> desk.remove(33, -1));
        Check.refusesAndKeeps("both least, the sum is 0", IllegalArgumentException.class, desk,
            () -> desk.remove(Integer.MIN_VALUE, Integer.MIN_VALUE));
    }

    private static void lengths() {
        Check.sentence("How many characters there are.");
        ProgramDesk desk = new ProgramDesk();
        Check.is("none", desk.length(), 0);
        desk.type(' ');
        Check.is("one, a blank", desk.length(), 1);
        desk.word(5);
        Check.is("a word and its blank more", desk.length(), 8);
        desk.insert(3, '1');
        Check.is("one more", desk.length(), 9);
        desk.remove(2, 3);
        Check.is("three fewer", desk.length(), 6);
        Check.is("240", full().length(), 240);
    }

    private static void letters() {
        Check.sentence("IndexOutOfBoundsException when none is there.");
        ProgramDesk desk = used();
        Check.is("the first place", desk.letter(0), 'f');
        Check.is("the last place", desk.letter(30), '}');
        Check.refusesAndKeeps("behind the last", IndexOutOfBoundsException.class, desk, () -> desk.letter(31));
        Check.refusesAndKeeps("before the first", IndexOutOfBoundsException.class, desk, () -> desk.letter(-1));
        for (int at : FAR) {
            Check.refusesAndKeeps("letter " + at, IndexOutOfBoundsException.class, desk, () -> desk.letter(at));
        }
        ProgramDesk full = full();
        Check.is("place 239", full.letter(239), ' ');
        Check.refusesAndKeeps("place 240", IndexOutOfBoundsException.class, full, () -> full.letter(240));
        full.remove(239, 1);
        Check.refusesAndKeeps("place 239, taken out", IndexOutOfBoundsException.class, full, () -> full.letter(239));
    }

    private static void lastCalls() {
        Check.sentence("An object is used for at most 512 calls after it has been made");
        ProgramDesk desk = new ProgramDesk();
        int calls = 0;
        for (char c : "fn main(n){print n;return n;}".toCharArray()) {
            desk.type(c);
            calls++;
        }
        for (; calls < 506; calls += 2) {
            desk.insert(0, ' ');
            desk.remove(0, 1);
        }
        for (; calls < 508; calls++) {
            desk.run(calls);
        }
        Check.is("call 509", desk.output(-2), 507);
        Check.is("call 510", desk.rename(8, 2L), 3);
        Check.is("call 511", desk.faults(), 0);
        Check.is("call 512", desk.reference(8, 2), 26);
    }
}
