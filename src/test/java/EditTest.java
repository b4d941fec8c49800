/** Promises 1 to 7: a new object, type, word, insert, remove, length and letter. */
final class EditTest {
    public static void main(String[] args) {
        aNewObject();
        type();
        word();
        insert();
        remove();
        letter();
        Check.finish();
    }

    private static void aNewObject() {
        ProgramDesk desk = new ProgramDesk();
        Check.is("new: length", desk.length(), 0);
        Check.is("new: tokens", desk.tokens(), 0);
        Check.is("new: faults", desk.faults(), 0);
        Check.is("new: printed", desk.output(-1), 0);
        Check.is("new: given", desk.output(-2), 0);
        Check.refuses("new: letter(0)", IndexOutOfBoundsException.class, () -> desk.letter(0));
        Check.refuses("new: token(0, 0)", java.util.NoSuchElementException.class, () -> desk.token(0, 0));
        Check.refuses("new: fault(0)", java.util.NoSuchElementException.class, () -> desk.fault(0));
        Check.refuses("new: reference(0, 0)", java.util.NoSuchElementException.class, () -> desk.reference(0, 0));
        Check.refuses("new: rename(0, 1)", java.util.NoSuchElementException.class, () -> desk.rename(0, 1L));
        Check.refuses("new: inline(0)", java.util.NoSuchElementException.class, () -> desk.inline(0));
        Check.refuses("new: run(0)", java.util.NoSuchElementException.class, () -> desk.run(0));
        Check.refuses("new: output(0)", java.util.NoSuchElementException.class, () -> desk.output(0));
    }

    private static void type() {
        ProgramDesk desk = new ProgramDesk();
        Check.is("type code 32", desk.type(' '), true);
        Check.is("type code 126", desk.type('~'), true);
        Check.is("type code 31", desk.type((char) 31), false);
        Check.is("type code 127", desk.type((char) 127), false);
        Check.is("type code 0", desk.type((char) 0), false);
        Check.is("type code 65535", desk.type((char) 65535), false);
        Check.is("type code 256 + 65", desk.type((char) 321), false);
        Check.is("type: the text", Check.text(desk), " ~");
        for (int n = 2; n < 239; n++) {
            desk.type('a');
        }
        Check.is("type the 240th", desk.type('b'), true);
        Check.is("type the 241st", desk.type('c'), false);
        Check.is("type: length at the end", desk.length(), 240);
        Check.is("type: the last one", desk.letter(239), 'b');
    }

    private static void word() {
        ProgramDesk desk = new ProgramDesk();
        for (int w = 0; w <= 6; w++) {
            Check.is("word " + w, desk.word(w), true);
        }
        Check.is("words", Check.text(desk), "fn let if while print return main ");
        Check.is("word -1", desk.word(-1), false);
        Check.is("word 7", desk.word(7), false);
        Check.is("word least", desk.word(Integer.MIN_VALUE), false);
        Check.is("word greatest", desk.word(Integer.MAX_VALUE), false);
        Check.is("words: length", desk.length(), 34);
        ProgramDesk full = Check.desk(Check.repeat("a", 237));
        Check.is("main does not fit", full.word(6), false);
        Check.is("let does not fit", full.word(1), false);
        Check.is("length as before", full.length(), 237);
        Check.is("if fits", full.word(2), true);
        Check.is("length 240", full.length(), 240);
        Check.is("nothing fits", full.word(2), false);
        ProgramDesk shorter = Check.desk(Check.repeat("a", 233));
        Check.is("return fits just", shorter.word(5), true);
        Check.is("the last one is a blank", shorter.letter(239), ' ');
    }

    private static void insert() {
        ProgramDesk desk = new ProgramDesk();
        desk.insert(0, 'b');
        desk.insert(0, 'a');
        desk.insert(2, 'd');
        desk.insert(2, 'c');
        Check.is("insert", Check.text(desk), "abcd");
        Check.refusesAndKeeps("insert a wrong one out of the text", IllegalArgumentException.class, desk, () -> desk.insert(-1, (char) 31));
        Check.refusesAndKeeps("insert code 127", IllegalArgumentException.class, desk, () -> desk.insert(0, (char) 127));
        Check.refusesAndKeeps("insert at -1", IndexOutOfBoundsException.class, desk, () -> desk.insert(-1, 'x'));
        Check.refusesAndKeeps("insert at 5", IndexOutOfBoundsException.class, desk, () -> desk.insert(5, 'x'));
        ProgramDesk full = Check.desk(Check.repeat("a", 239));
        full.insert(239, 'z');
        Check.is("insert the 240th", full.letter(239), 'z');
        Check.refusesAndKeeps("insert the 241st", IllegalStateException.class, full, () -> full.insert(0, 'x'));
        Check.refusesAndKeeps("insert the 241st at the end", IllegalStateException.class, full, () -> full.insert(240, 'x'));
        Check.refusesAndKeeps("insert out of a full text", IndexOutOfBoundsException.class, full, () -> full.insert(241, 'x'));
        Check.refusesAndKeeps("insert a wrong one in a full text", IllegalArgumentException.class, full, () -> full.insert(0, '\n'));
        ProgramDesk read = Check.desk("fn f(){}");
        Check.is("faults before insert", read.faults(), 0);
        read.insert(7, ';');
        Check.is("read at once behind insert", Check.faults(read), "1@7");
    }

    private static void remove() {
        ProgramDesk desk = Check.desk("abcdef");
        desk.remove(1, 2);
        Check.is("remove in the middle", Check.text(desk), "adef");
        desk.remove(3, 1);
        Check.is("remove the last one", Check.text(desk), "ade");
        desk.remove(0, 0);
        desk.remove(3, 0);
        Check.is("remove nothing", Check.text(desk), "ade");
        Check.refusesAndKeeps("remove -1 out of the text", IllegalArgumentException.class, desk, () -> desk.remove(-1, -1));
        Check.refusesAndKeeps("remove at -1", IndexOutOfBoundsException.class, desk, () -> desk.remove(-1, 1));
        Check.refusesAndKeeps("remove 0 at 4", IndexOutOfBoundsException.class, desk, () -> desk.remove(4, 0));
        Check.refusesAndKeeps("remove too many", IndexOutOfBoundsException.class, desk, () -> desk.remove(1, 3));
        Check.refusesAndKeeps("remove where the sum wraps", IndexOutOfBoundsException.class, desk,
            () -> desk.remove(2, Integer.MAX_VALUE));
        Check.refusesAndKeeps("remove where both are greatest", IndexOutOfBoundsException.class, desk,
            () -> desk.remove(Integer.MAX_VALUE, Integer.MAX_VALUE));
        Check.refusesAndKeeps("remove at the least", IndexOutOfBoundsException.class, desk,
            () -> desk.remove(Integer.MIN_VALUE, 1));
        desk.remove(0, 3);
        Check.is("remove all", desk.length(), 0);
        Check.is("no faults in an empty text", desk.faults(), 0);
    }

    private static void letter() {
        ProgramDesk desk = Check.desk("a ~");
        Check.is("letter 0", desk.letter(0), 'a');
        Check.is("letter 1", desk.letter(1), ' ');
        Check.is("letter 2", desk.letter(2), '~');
        Check.is("length", desk.length(), 3);
        Check.refuses("letter 3", IndexOutOfBoundsException.class, () -> desk.letter(3));
        Check.refuses("letter -1", IndexOutOfBoundsException.class, () -> desk.letter(-1));
        desk.remove(2, 1);
        Check.refuses("a letter that was removed", IndexOutOfBoundsException.class, () -> desk.letter(2));
    }
}
