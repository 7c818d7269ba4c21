/** For each promise of the document, answers that were worked out by hand from its words. */
public final class PromisesTest extends Checks {
    public static void main(String[] args) {
        aNewObject();
        insert();
        delete();
        type();
        erase();
        moveCursor();
        undoOfInsertions();
        undoOfDeletions();
        undoAtTheLimits();
        deliverUp();
        deliverDown();
        deliverAll();
        texts();
        textsByHistory();
        textOfTheCentre();
        cursors();
        marks();
        revisions();
        sentAndWaiting();
        runs();
        messagesUnderWay();
        kept();
        history();
        rowsOfOperations();
        agree();
        distances();
        ownShare();
        meanRun();
        textNumber();
        finish("all promises hold");
    }

    // Helpers

    private static void begin(int number) {
        begin("promise " + number);
    }

    // The promises

    private static void aNewObject() {
        begin(1);
        Couplet x = new Couplet();
        for (int end = 0; end < 2; end++) {
            due(0, x.length(end));
            due(0, x.cursor(end));
            due(0, x.mark(end));
            due(0, x.revision(end));
            due(0, x.sent(end));
            due(0, x.waiting(end));
            due(0, x.kept(end));
            due(0, x.up(end));
            due(0, x.down(end));
        }
        due(0, x.centreLength());
        due(0, x.centreRevision());
        x.type(0, 'a');
        due(0, new Couplet().length(0));
    }

    private static void insert() {
        begin(2);
        Couplet x = new Couplet();
        due(1, x.insert(0, 0, 'b'));
        due(2, x.insert(0, 0, 'a'));
        due(3, x.insert(0, 2, 'd'));
        due(4, x.insert(0, 2, 'c'));
        due("abcd", text(x, 0));
        due("", text(x, 1));
        due(1, x.insert(1, 0, ' '));
        due(2, x.insert(1, 1, '~'));
        due(" ~", text(x, 1));
        dueThrow(ARGUMENT, () -> x.insert(0, 5, 'e'));
        dueThrow(ARGUMENT, () -> x.insert(0, -1, 'e'));
        dueThrow(ARGUMENT, () -> x.insert(0, Integer.MAX_VALUE, 'e'));
        dueThrow(ARGUMENT, () -> x.insert(0, Integer.MIN_VALUE, 'e'));
        dueThrow(ARGUMENT, () -> x.insert(0, 0, (char) 31));
        dueThrow(ARGUMENT, () -> x.insert(0, 0, (char) 127));
        dueThrow(ARGUMENT, () -> x.insert(0, 0, (char) 65535));
        dueThrow(INDEX, () -> x.insert(2, -1, (char) 0));
        due("abcd", text(x, 0));
        due(4, x.kept(0));

        Couplet full = new Couplet();
        for (int i = 0; i < 60; i++) {
            due(i + 1, full.insert(0, i, 'x'));
        }
        dueThrow(STATE, () -> full.insert(0, 0, 'x'));
        dueThrow(ARGUMENT, () -> full.insert(0, 61, 'x'));
        dueThrow(ARGUMENT, () -> full.insert(0, 0, (char) 0));
        due(1, full.insert(1, 0, 'y'));
        full.deliverAll();
        due(61, full.length(0));
        dueThrow(STATE, () -> full.insert(0, 0, 'x'));
        dueThrow(STATE, () -> full.insert(1, 0, 'x'));
        full.delete(0, 0);
        dueThrow(STATE, () -> full.insert(0, 0, 'x'));
        full.delete(0, 0);
        due(60, full.insert(0, 0, 'z'));

        Couplet done = exhausted();
        dueThrow(STATE, () -> done.insert(1, 0, 'x'));
        dueThrow(ARGUMENT, () -> done.insert(1, 1, 'x'));
        dueThrow(INDEX, () -> done.insert(-1, 0, 'x'));
    }

    private static void delete() {
        begin(3);
        Couplet x = typed(0, "abcd");
        due('b', x.delete(0, 1));
        due("acd", text(x, 0));
        due('d', x.delete(0, 2));
        due('a', x.delete(0, 0));
        due("c", text(x, 0));
        dueThrow(ARGUMENT, () -> x.delete(0, 1));
        dueThrow(ARGUMENT, () -> x.delete(0, -1));
        dueThrow(ARGUMENT, () -> x.delete(1, 0));
        dueThrow(INDEX, () -> x.delete(2, 7));
        due("c", text(x, 0));

        Couplet done = exhausted();
        dueThrow(STATE, () -> done.delete(0, 0));
        dueThrow(ARGUMENT, () -> done.delete(0, 60));
        due(60, done.length(0));
    }

    private static void type() {
        begin(4);
        Couplet x = new Couplet();
        due(1, x.type(0, 'a'));
        due(2, x.type(0, 'c'));
        x.moveCursor(0, 1);
        due(2, x.type(0, 'b'));
        due("abc", text(x, 0));
        due(1, x.type(1, ' '));
        due(2, x.type(1, '~'));
        dueThrow(ARGUMENT, () -> x.type(0, (char) 31));
        dueThrow(ARGUMENT, () -> x.type(0, (char) 127));
        dueThrow(INDEX, () -> x.type(2, (char) 127));
        due(2, x.cursor(0));

        Couplet full = typed(1, "x".repeat(60));
        dueThrow(STATE, () -> full.type(1, 'x'));
        dueThrow(ARGUMENT, () -> full.type(1, (char) 0));
        due(1, full.type(0, 'x'));
        Couplet done = exhausted();
        dueThrow(STATE, () -> done.type(1, 'x'));
        due(0, done.length(1));
    }

    private static void erase() {
        begin(5);
        Couplet x = typed(0, "abc");
        due('c', x.erase(0));
        x.moveCursor(0, 1);
        due('a', x.erase(0));
        due("b", text(x, 0));
        due(0, x.cursor(0));
        dueThrow(ELEMENT, () -> x.erase(0));
        dueThrow(ELEMENT, () -> x.erase(1));
        dueThrow(INDEX, () -> x.erase(2));
        due("b", text(x, 0));

        Couplet done = exhausted();
        dueThrow(STATE, () -> done.erase(0));
        dueThrow(ELEMENT, () -> done.erase(1));
    }

    private static void moveCursor() {
        begin(6);
        Couplet x = typed(0, "abc");
        due(3, x.moveCursor(0, 1));
        due(1, x.moveCursor(0, 3));
        due(3, x.moveCursor(0, 0));
        dueThrow(ARGUMENT, () -> x.moveCursor(0, 4));
        dueThrow(ARGUMENT, () -> x.moveCursor(0, -1));
        dueThrow(ARGUMENT, () -> x.moveCursor(1, 1));
        dueThrow(INDEX, () -> x.moveCursor(2, 9));
        due(0, x.cursor(0));
        due(0, x.moveCursor(1, 0));
    }

    private static void undoOfInsertions() {
        begin(7);
        Couplet x = typed(0, "aab");
        x.moveCursor(0, 0);
        due(true, x.undo(0));
        due("aa", text(x, 0));
        due(2, x.cursor(0));
        // The second a is gone; the first one only looks like it.
        x.delete(0, 1);
        due(3, x.kept(0));
        due(true, x.undo(0));
        due(false, x.undo(0));
        due("aa", text(x, 0));
        due(1, x.kept(0));
        due(true, x.undo(0));
        due("a", text(x, 0));
        dueThrow(ELEMENT, () -> x.undo(0));
        dueThrow(ELEMENT, () -> x.undo(1));
        dueThrow(INDEX, () -> x.undo(2));

        // The other end has deleted it.
        Couplet y = shared("ab");
        y.delete(1, 1);
        y.deliverAll();
        due(false, y.undo(0));
        due(true, y.undo(0));
        due("", text(y, 0));
        due(0, y.kept(0));
        due(1, y.up(0));
    }

    private static void undoOfDeletions() {
        begin(7);
        // Each place moves only by what is lower: the second one put back comes ahead.
        Couplet x = typed(0, "abc");
        x.erase(0);
        x.erase(0);
        due(true, x.undo(0));
        due("ab", text(x, 0));
        due(2, x.cursor(0));
        due(true, x.undo(0));
        due("acb", text(x, 0));
        due(2, x.cursor(0));
        due(3, x.kept(0));

        // The place moves by operations of both ends, and by what undoes.
        Couplet y = shared("abcd");
        y.delete(1, 2);
        y.deliverAll();
        y.insert(0, 0, 'X');
        y.deliverAll();
        y.insert(0, 3, 'Y');
        y.deliverAll();
        due("XabYd", text(y, 1));
        due(true, y.undo(1));
        due("XabcYd", text(y, 1));
        due(1, y.ownerAt(1, 3));
        due(0, y.ownerAt(1, 2));
        y.delete(1, 5);
        y.delete(0, 0);
        y.delete(0, 0);
        y.deliverAll();
        y.undo(0);
        due("abcY", text(y, 0));
        y.deliverAll();
        due(true, y.undo(1));
        due("abcYd", text(y, 1));
        due(5, y.cursor(1));

        // Its own later operations move it as well.
        Couplet z = typed(0, "abcd");
        z.delete(0, 3);
        z.delete(0, 0);
        z.undo(0);
        due("abc", text(z, 0));
        z.undo(0);
        due("abcd", text(z, 0));
        due(4, z.kept(0));
    }

    private static void undoAtTheLimits() {
        begin(7);
        Couplet full = new Couplet();
        typeInto(full, 0, "x".repeat(60));
        full.deliverAll();
        full.delete(0, 0);
        full.deliverAll();
        full.type(1, 'y');
        full.deliverAll();
        due(60, full.length(0));
        dueThrow(STATE, () -> full.undo(0));
        due(61, full.kept(0));
        full.delete(0, 30);
        due(true, full.undo(0));
        due(60, full.length(0));

        Couplet done = exhausted();
        dueThrow(STATE, () -> done.undo(0));
        dueThrow(STATE, () -> done.undo(1));
        due(60, done.kept(0));
        due(140, done.kept(1));
        due(60, done.length(0));

        // Nothing has to be deleted, so the limit does not matter.
        Couplet spent = typed(0, "z");
        spent.deliverAll();
        spent.delete(1, 0);
        for (int i = 0; i < 99; i++) {
            spent.type(1, 'b');
            spent.erase(1);
        }
        dueThrow(STATE, () -> spent.type(1, 'b'));
        spent.deliverUp(1);
        spent.deliverDown(0);
        due(0, spent.length(0));
        due(false, spent.undo(0));
        due(0, spent.kept(0));
        dueThrow(ELEMENT, () -> spent.undo(0));

        // What undoes is counted as any other operation.
        Couplet back = new Couplet();
        for (int i = 0; i < 100; i++) {
            due(1, back.type(0, 'a'));
            due(true, back.undo(0));
        }
        dueThrow(STATE, () -> back.type(0, 'a'));
        Couplet again = new Couplet();
        for (int i = 0; i < 50; i++) {
            due(1, again.type(1, 'a'));
            due('a', again.erase(1));
            due(true, again.undo(1));
            due('a', again.erase(1));
        }
        dueThrow(STATE, () -> again.type(1, 'a'));
    }

    private static void deliverUp() {
        begin(8);
        Couplet x = typed(0, "abc");
        dueThrow(ELEMENT, () -> x.deliverUp(1));
        dueThrow(INDEX, () -> x.deliverUp(2));
        due(1, x.deliverUp(0));
        due("a", centre(x));
        dueThrow(ELEMENT, () -> x.deliverUp(0));
        x.deliverDown(0);
        due(2, x.deliverUp(0));
        due("abc", centre(x));

        // Those that are nothing count too.
        Couplet y = shared("a");
        y.delete(0, 0);
        y.delete(1, 0);
        due(1, y.deliverUp(0));
        due(1, y.deliverUp(1));
        due("1 n-1", message(y, 2));
    }

    private static void deliverDown() {
        begin(9);
        Couplet x = typed(0, "ab");
        dueThrow(ELEMENT, () -> x.deliverDown(0));
        dueThrow(INDEX, () -> x.deliverDown(-1));
        x.deliverUp(0);
        due('o', x.deliverDown(1));
        due("a", text(x, 1));
        due('a', x.deliverDown(0));
        dueThrow(ELEMENT, () -> x.deliverDown(0));
        dueThrow(ELEMENT, () -> x.deliverDown(1));

        // In the order in which they were sent.
        Couplet y = typed(0, "a");
        y.type(1, 'b');
        y.deliverUp(1);
        y.deliverUp(0);
        due('o', y.deliverDown(0));
        due('a', y.deliverDown(0));
        due('a', y.deliverDown(1));
        due('o', y.deliverDown(1));
        due("ab", text(y, 0));
        due("ab", text(y, 1));
        due("ab", centre(y));
    }

    private static void deliverAll() {
        begin(10);
        Couplet x = new Couplet();
        due(0, x.deliverAll());
        x.type(0, 'a');
        due(3, x.deliverAll());
        due("a", text(x, 1));
        due(0, x.deliverAll());

        // From the end 0 first, which shows in the order of the history.
        x.type(1, 'c');
        x.type(0, 'b');
        x.type(1, 'd');
        due(9, x.deliverAll());
        due("0 i1", message(x, 1));
        due("1 i0", message(x, 2));
        due("1 i1", message(x, 3));
        due("cdab", text(x, 0));
        due("cdab", text(x, 1));

        // To the end 0 ahead of to the end 1: its next message goes up first.
        Couplet y = new Couplet();
        typeInto(y, 0, "ab");
        typeInto(y, 1, "cd");
        due(12, y.deliverAll());
        due("0 i0", message(y, 0));
        due("1 i1", message(y, 1));
        due("0 i1", message(y, 2));
        due("1 i3", message(y, 3));
        due("abcd", text(y, 1));
    }

    private static void texts() {
        begin(11);
        Couplet x = shared("abc");
        x.type(0, 'd');
        due(4, x.length(0));
        due(3, x.length(1));

        begin(12);
        due('d', x.charAt(0, 0));
        due('c', x.charAt(0, 3));
        due('a', x.charAt(1, 0));
        dueThrow(ARGUMENT, () -> x.charAt(0, 4));
        dueThrow(ARGUMENT, () -> x.charAt(1, 3));
        dueThrow(ARGUMENT, () -> x.charAt(0, -1));
        dueThrow(INDEX, () -> x.charAt(2, -1));

        begin(13);
        x.insert(1, 1, 'a');
        due(1, x.ownerAt(1, 1));
        due(0, x.ownerAt(1, 0));
        x.deliverAll();
        due("daabc", text(x, 0));
        due(0, x.ownerAt(0, 1));
        due(1, x.ownerAt(0, 2));
        due(0, x.ownerAt(0, 3));
        dueThrow(ARGUMENT, () -> x.ownerAt(0, 5));
        dueThrow(ARGUMENT, () -> x.ownerAt(0, -1));
        dueThrow(INDEX, () -> x.ownerAt(2, -1));
    }

    private static void textsByHistory() {
        begin(14);
        Couplet x = new Couplet();
        due(0, x.lengthByHistory(0));
        typeInto(x, 0, "abc");
        due(3, x.lengthByHistory(0));
        due(0, x.lengthByHistory(1));
        x.deliverUp(0);
        due(3, x.lengthByHistory(0));
        due(0, x.lengthByHistory(1));
        x.deliverDown(1);
        due(1, x.lengthByHistory(1));
        x.type(1, 'd');
        x.erase(1);
        due(1, x.lengthByHistory(1));

        begin(15);
        due("abc", byHistory(x, 0));
        due("a", byHistory(x, 1));
        x.insert(1, 0, 'e');
        x.deliverAll();
        x.delete(0, 1);
        due("eabc", byHistory(x, 1));
        due(text(x, 0), byHistory(x, 0));
        dueThrow(ARGUMENT, () -> x.charByHistory(0, 3));
        dueThrow(ARGUMENT, () -> x.charByHistory(0, -1));
        dueThrow(ARGUMENT, () -> x.charByHistory(1, 4));
        dueThrow(INDEX, () -> x.charByHistory(2, 0));
    }

    private static void textOfTheCentre() {
        begin(16);
        Couplet x = typed(1, "abc");
        due(0, x.centreLength());
        x.deliverUp(1);
        due(1, x.centreLength());
        x.deliverAll();
        due(3, x.centreLength());
        x.delete(0, 0);
        due(3, x.centreLength());
        x.deliverUp(0);
        due(2, x.centreLength());

        begin(17);
        due('b', x.centreChar(0));
        due('c', x.centreChar(1));
        dueThrow(ARGUMENT, () -> x.centreChar(2));
        dueThrow(ARGUMENT, () -> x.centreChar(-1));
    }

    private static void cursors() {
        begin(18);
        Couplet x = shared("abcdef");
        x.insert(0, 4, 'x');
        due(5, x.cursor(0));
        x.delete(0, 1);
        due(1, x.cursor(0));
        x.deliverAll();
        due("acdxef", text(x, 1));
        due(0, x.cursor(1));
        x.moveCursor(1, 3);
        // At the same position it stays, at a lower one it moves.
        x.insert(0, 3, 'y');
        x.deliverAll();
        due(3, x.cursor(1));
        x.insert(0, 2, 'z');
        x.deliverAll();
        due(4, x.cursor(1));
        x.delete(0, 4);
        x.deliverAll();
        due(4, x.cursor(1));
        x.delete(0, 3);
        x.deliverAll();
        due(3, x.cursor(1));
        due(3, x.cursor(0));
        x.undo(0);
        due(4, x.cursor(0));
    }

    private static void marks() {
        begin(19);
        Couplet x = shared("abcdef");
        due(6, x.mark(1));
        due(0, x.mark(0));
        x.insert(0, 2, 'x');
        x.deliverAll();
        due(3, x.mark(1));
        x.delete(0, 5);
        x.deliverAll();
        due(5, x.mark(1));
        // By the end's own operations: at the same position it stays.
        x.insert(1, 5, 'y');
        due(5, x.mark(1));
        x.insert(1, 4, 'z');
        due(6, x.mark(1));
        x.delete(1, 6);
        due(6, x.mark(1));
        x.delete(1, 5);
        due(5, x.mark(1));
        x.undo(1);
        due(5, x.mark(1));
        x.moveCursor(1, 0);
        due(5, x.mark(1));

        // What became nothing leaves the mark and the cursor where they are.
        Couplet y = shared("abc");
        y.delete(0, 0);
        y.delete(1, 0);
        y.moveCursor(1, 2);
        due(2, y.mark(1));
        y.deliverUp(0);
        y.deliverDown(1);
        due("bc", text(y, 1));
        due(2, y.mark(1));
        due(2, y.cursor(1));
    }

    private static void revisions() {
        begin(20);
        Couplet x = typed(0, "ab");
        due(0, x.revision(0));
        x.deliverUp(0);
        due(0, x.revision(0));
        x.deliverDown(0);
        due(1, x.revision(0));
        due(0, x.revision(1));
        x.deliverDown(1);
        due(1, x.revision(1));
        x.deliverAll();
        due(2, x.revision(0));
        due(2, x.revision(1));

        begin(27);
        due(2, x.centreRevision());
        x.type(1, 'c');
        due(2, x.centreRevision());
        x.deliverUp(1);
        due(3, x.centreRevision());
        due(2, x.revision(1));
    }

    private static void sentAndWaiting() {
        begin(21);
        Couplet x = new Couplet();
        x.type(0, 'a');
        due(1, x.sent(0));
        x.type(0, 'b');
        x.type(0, 'c');
        due(1, x.sent(0));
        x.deliverUp(0);
        due(1, x.sent(0));
        x.deliverDown(0);
        due(2, x.sent(0));
        due(0, x.sent(1));
        x.deliverAll();
        due(0, x.sent(0));

        begin(22);
        due(0, x.waiting(0));
        x.type(0, 'd');
        due(0, x.waiting(0));
        x.type(0, 'e');
        x.erase(0);
        due(2, x.waiting(0));
        due(0, x.waiting(1));
        x.deliverAll();
        due(0, x.waiting(0));

        // A sent operation that became nothing is still sent; a waiting one goes away.
        begin(21);
        Couplet y = shared("abc");
        y.delete(0, 0);
        y.delete(0, 1);
        y.delete(1, 0);
        y.deliverUp(1);
        y.deliverDown(0);
        due(1, y.sent(0));
        due(1, y.waiting(0));
        y.type(0, 'x');
        due(2, y.waiting(0));

        begin(22);
        Couplet z = shared("abc");
        z.delete(0, 0);
        z.delete(0, 1);
        z.delete(1, 2);
        z.deliverUp(1);
        z.deliverDown(0);
        due(1, z.sent(0));
        due(0, z.waiting(0));
        z.deliverAll();
        due(4, z.centreRevision());
        due("b", text(z, 1));
    }

    private static void runs() {
        begin(23);
        Couplet x = new Couplet();
        due(0, x.runs(0));
        x.type(0, 'a');
        due(0, x.runs(0));
        typeInto(x, 0, "bcde");
        due(1, x.runs(0));
        // At the position of the insertion before it, and 2 behind it, it does not go on.
        x.insert(0, 4, 'f');
        due(2, x.runs(0));
        x.insert(0, 6, 'g');
        due(3, x.runs(0));
        x.erase(0);
        due(4, x.runs(0));
        x.delete(0, 5);
        due(4, x.runs(0));
        x.delete(0, 3);
        due(5, x.runs(0));
        x.delete(0, 3);
        due(5, x.runs(0));
        // A deletion behind the one before it is another run, and so is an insertion at its place.
        Couplet y = shared("abcdef");
        y.delete(0, 0);
        y.delete(0, 0);
        y.delete(0, 1);
        due(2, y.runs(0));
        y.insert(0, 2, 'x');
        due(3, y.runs(0));
        y.delete(0, 3);
        due(4, y.runs(0));
        y.deliverUp(0);
        y.deliverDown(0);
        due(1, y.sent(0));
        due(3, y.waiting(0));
        due(3, y.runs(0));
        y.deliverAll();
        due(0, y.runs(0));
        due("cex", text(y, 1));
    }

    private static void messagesUnderWay() {
        begin(24);
        Couplet x = typed(0, "abc");
        due(1, x.up(0));
        due(0, x.up(1));
        x.deliverUp(0);
        due(0, x.up(0));
        x.deliverDown(0);
        due(1, x.up(0));

        begin(25);
        due(0, x.down(0));
        due(1, x.down(1));
        x.deliverUp(0);
        due(1, x.down(0));
        due(2, x.down(1));
        x.deliverAll();
        due(0, x.down(0));
        due(0, x.down(1));
    }

    private static void kept() {
        begin(26);
        Couplet x = typed(0, "ab");
        x.erase(0);
        x.insert(0, 0, 'c');
        x.delete(0, 0);
        due(5, x.kept(0));
        due(0, x.kept(1));
        x.moveCursor(0, 0);
        x.deliverAll();
        due(5, x.kept(0));
        due(0, x.kept(1));
        x.undo(0);
        due(4, x.kept(0));
    }

    private static void history() {
        begin(28);
        Couplet x = shared("abc");
        due(2, x.centreRevision());
        x.delete(1, 0);
        due(0, x.historyEnd(0));
        dueThrow(ELEMENT, () -> x.historyEnd(2));
        x.deliverAll();
        due(1, x.historyEnd(2));
        dueThrow(ELEMENT, () -> x.historyEnd(-1));
        dueThrow(ELEMENT, () -> x.historyEnd(3));

        begin(29);
        due(1, x.historySize(0));
        due(2, x.historySize(1));
        dueThrow(ELEMENT, () -> x.historySize(-1));
        dueThrow(ELEMENT, () -> x.historySize(3));

        begin(30);
        due('i', x.historyKind(1, 1));
        due('d', x.historyKind(2, 0));
        dueThrow(ELEMENT, () -> x.historyKind(3, 0));
        dueThrow(ELEMENT, () -> x.historyKind(-1, -1));
        dueThrow(INDEX, () -> x.historyKind(1, 2));
        dueThrow(INDEX, () -> x.historyKind(1, -1));

        begin(31);
        due(0, x.historyPosition(0, 0));
        due(1, x.historyPosition(1, 0));
        due(2, x.historyPosition(1, 1));
        due(0, x.historyPosition(2, 0));
        dueThrow(ELEMENT, () -> x.historyPosition(3, 5));
        dueThrow(ELEMENT, () -> x.historyPosition(-1, 0));
        dueThrow(INDEX, () -> x.historyPosition(0, 1));
        dueThrow(INDEX, () -> x.historyPosition(0, -1));

        // Twice deleted: the second one is nothing.
        x.delete(0, 1);
        x.delete(1, 1);
        x.deliverUp(1);
        x.deliverUp(0);
        due("1 d1", message(x, 3));
        due("0 n-1", message(x, 4));
        begin(30);
        due('n', x.historyKind(4, 0));
        begin(31);
        due(-1, x.historyPosition(4, 0));
    }

    private static void rowsOfOperations() {
        begin(9);
        // At the end 0, the first y passes four operations: behind the three typed, ahead of c.
        Couplet x = shared("abc");
        x.moveCursor(0, 1);
        typeInto(x, 0, "123");
        x.delete(0, 4);
        x.insert(1, 2, 'y');
        x.insert(1, 0, 'z');
        x.deliverUp(1);
        x.deliverDown(0);
        due("a123yc", text(x, 0));
        due(5, x.mark(0));
        due(4, x.cursor(0));
        due("a123yc", byHistory(x, 0));
        x.deliverUp(0);
        x.deliverDown(1);
        x.deliverDown(1);
        due("za1byc", text(x, 1));
        due(3, x.mark(1));
        due("za1byc", byHistory(x, 1));
        // The message that was under way is transformed only at the centre.
        due("0 i1", message(x, 3));
        due("1 i2", message(x, 2));
        x.deliverAll();
        due("za123yc", text(x, 0));
        due("za123yc", text(x, 1));
        due("za123yc", centre(x));
        due("1 i0", message(x, 4));
        due("0 i3 i4", message(x, 5));
        due("0 d5", message(x, 6));
    }

    private static void agree() {
        begin(32);
        Couplet x = new Couplet();
        due(true, x.agree());
        x.type(0, 'a');
        due(false, x.agree());
        x.type(1, 'a');
        // The ends look the same, but the centre is empty.
        due(false, x.agree());
        x.deliverAll();
        due("aa", centre(x));
        due(true, x.agree());
        x.type(1, 'b');
        x.deliverUp(1);
        due(false, x.agree());
        x.deliverDown(0);
        due(true, x.agree());
        x.type(0, 'd');
        x.deliverUp(0);
        due(centre(x), text(x, 0));
        due(false, x.agree());
        x.deliverAll();
        due(true, x.agree());
        // As long as another one, but with other characters.
        x.delete(0, 0);
        x.insert(0, 0, 'c');
        due(false, x.agree());
    }

    private static void dueDistance(int want, String here, String there) {
        Couplet x = typed(0, here);
        typeInto(x, 1, there);
        // Asked twice, as what one call leaves behind must not matter to the next one.
        begin(33);
        due(want, x.distance());
        due(want, x.distance());
        begin(34);
        due(want, x.distanceByWays());
        due(want, x.distanceByWays());
    }

    private static void distances() {
        dueDistance(0, "", "");
        dueDistance(3, "", "abc");
        dueDistance(3, "abc", "");
        dueDistance(0, "abc", "abc");
        dueDistance(2, "a", "b");
        dueDistance(5, "abcabba", "cbabac");
        dueDistance(5, "kitten", "sitting");
        dueDistance(2, "abcdef", "bcdefg");
        dueDistance(6, "aaaa", "aaaaaaaaaa");
        dueDistance(120, "x".repeat(60), "y".repeat(60));
        dueDistance(2, "x".repeat(59) + "y", "y" + "x".repeat(59));

        // 61 and more characters at an end.
        Couplet x = typed(0, "x".repeat(60));
        typeInto(x, 1, "y".repeat(60));
        x.deliverUp(1);
        x.deliverDown(0);
        begin(33);
        due(119, x.distance());
        begin(34);
        due(119, x.distanceByWays());
        x.deliverAll();
        due(0, x.distanceByWays());
        due(120, x.length(0));
        begin(33);
        due(0, x.distance());
    }

    private static void ownShare() {
        begin(35);
        Couplet x = new Couplet();
        dueThrow(ARITHMETIC, () -> x.ownShare(0));
        dueThrow(INDEX, () -> x.ownShare(2));
        x.type(0, 'a');
        due(1f, x.ownShare(0));
        dueThrow(ARITHMETIC, () -> x.ownShare(1));
        x.type(1, 'b');
        x.type(1, 'c');
        x.deliverAll();
        due(1f / 3f, x.ownShare(0));
        due(2f / 3f, x.ownShare(1));
        x.delete(1, 0);
        due(1f, x.ownShare(1));
        x.deliverAll();
        due(0f, x.ownShare(0));
    }

    private static void meanRun() {
        begin(36);
        Couplet x = new Couplet();
        dueThrow(ARITHMETIC, () -> x.meanRun());
        typeInto(x, 0, "abcd");
        dueThrow(ARITHMETIC, () -> x.meanRun());
        x.deliverUp(0);
        due(1.0, x.meanRun());
        x.deliverAll();
        due(2.0, x.meanRun());
        x.delete(0, 0);
        x.delete(1, 0);
        x.deliverAll();
        due(6.0 / 4.0, x.meanRun());
        x.type(1, 'e');
        x.deliverAll();
        due(7.0 / 5.0, x.meanRun());
    }

    private static void textNumber() {
        begin(37);
        Couplet x = new Couplet();
        due(7L, x.textNumber(0));
        x.type(0, 'a');
        due(7L * 31 + 97, x.textNumber(0));
        x.type(0, 'b');
        due((7L * 31 + 97) * 31 + 98, x.textNumber(0));
        due(7L, x.textNumber(1));
        typeInto(x, 1, "~".repeat(60));
        long number = 7;
        for (int i = 0; i < 60; i++) {
            number = number * 31 + 126;
        }
        due(number, x.textNumber(1));
    }
}
