/** The boundary cases of the promise 7: what is undone, where, and when it is refused. */
final class UndoEdges extends Checks {

    private static void promise7_endsAre0And1() {
        Couplet x = typed(0, "a");
        x.type(1, 'b');
        dueTwoEnds(x, end -> x.undo(end));
        due("", text(x, 0));
        due("", text(x, 1));
    }

    // What is kept

    private static void promise7_nothingKeptInANewObject() {
        Couplet x = new Couplet();
        dueRefused(ELEMENT, x, () -> x.undo(0), () -> x.undo(1));
    }

    private static void promise7_nothingKeptWhenAllWasUndone() {
        Couplet x = typed(0, "ab");
        due(true, x.undo(0));
        due(1, x.kept(0));
        due(true, x.undo(0));
        due(0, x.kept(0));
        dueRefused(ELEMENT, x, () -> x.undo(0));
    }

    private static void promise7_operationsOfTheOtherEndAreNotKept() {
        Couplet x = shared("ab");
        due(0, x.kept(1));
        dueRefused(ELEMENT, x, () -> x.undo(1));
        due(2, x.kept(0));
    }

    private static void promise7_whatUndoesIsNotKept() {
        for (int end = 0; end < 2; end++) {
            int writer = end;
            Couplet x = typed(writer, "ab");
            x.erase(writer);
            due(true, x.undo(writer));
            due(2, x.kept(writer));
            // What is undone now are the two insertions; the b of the second one is gone.
            due(false, x.undo(writer));
            due("ab", text(x, writer));
            due(true, x.undo(writer));
            due("b", text(x, writer));
            dueRefused(ELEMENT, x, () -> x.undo(writer));
        }
    }

    private static void promise7_newOperationIsUndoneAheadOfThoseLeft() {
        Couplet x = typed(0, "ab");
        x.undo(0);
        x.type(0, 'c');
        due(true, x.undo(0));
        due("a", text(x, 0));
        due(true, x.undo(0));
        due("", text(x, 0));
    }

    private static void promise7_whatUndoesIsSentOrWaitsAsAnyOperation() {
        Couplet x = shared("ab");
        due(true, x.undo(0));
        due(1, x.sent(0));
        due(1, x.up(0));
        due(true, x.undo(0));
        due(1, x.waiting(0));
        x.deliverAll();
        due("", text(x, 1));
        due("0 d1", message(x, 2));
        due("0 d0", message(x, 3));
    }

    private static void promise7_whatUndoesMovesTheCursorAsAnyOperation() {
        Couplet x = shared("abcd");
        due(true, x.undo(0));
        due(3, x.cursor(0));
        x.delete(0, 0);
        x.moveCursor(0, 2);
        due(true, x.undo(0));
        due(1, x.cursor(0));
    }

    // Insertions

    private static void promise7_insertedCharacterAtPosition0IsDeleted() {
        Couplet x = typed(0, "bc");
        x.insert(0, 0, 'a');
        due(true, x.undo(0));
        due("bc", text(x, 0));
        due(0, x.cursor(0));
    }

    private static void promise7_insertedCharacterAtTheLastPositionIsDeleted() {
        Couplet x = typed(0, "abc");
        x.moveCursor(0, 0);
        due(true, x.undo(0));
        due("ab", text(x, 0));
        due(2, x.cursor(0));
    }

    private static void promise7_insertedCharacterIsFoundWhereItWasMovedTo() {
        Couplet x = shared("ab");
        x.insert(1, 0, 'c');
        x.deliverAll();
        due("cab", text(x, 0));
        due(true, x.undo(0));
        due("ca", text(x, 0));
        x.delete(1, 0);
        x.deliverAll();
        due(true, x.undo(0));
        due("", text(x, 0));
    }

    private static void promise7_characterThatLooksTheSameIsNotDeleted() {
        Couplet x = typed(0, "a");
        x.deliverAll();
        x.type(1, 'a');
        x.deliverAll();
        due("10", owners(x, 1));
        due(true, x.undo(0));
        due("1", owners(x, 0));
        due(true, x.undo(1));
        due("0", owners(x, 1));
        Couplet y = typed(1, "a");
        y.deliverAll();
        y.type(0, 'a');
        y.deliverAll();
        due("01", owners(y, 0));
        due(true, y.undo(1));
        due("0", owners(y, 1));
    }

    private static void promise7_characterThatTheEndDeletedIsNotThere() {
        for (int end = 0; end < 2; end++) {
            Couplet x = typed(end, "a");
            x.erase(end);
            due(true, x.undo(end));
            due(false, x.undo(end));
            due("a", text(x, end));
            due(0, x.kept(end));
        }
    }

    private static void promise7_characterThatTheOtherEndDeletedIsNotThere() {
        Couplet x = shared("ab");
        x.delete(1, 1);
        x.deliverAll();
        due(false, x.undo(0));
        due("a", text(x, 0));
        due(1, x.kept(0));
        due(0, x.sent(0));
        due(0, x.up(0));
        due(0, x.cursor(0));
        due(true, x.undo(0));
    }

    private static void promise7_characterThatTheOtherEndPutBackIsAnotherOne() {
        Couplet x = shared("a");
        x.delete(1, 0);
        x.undo(1);
        x.deliverAll();
        due("a", text(x, 0));
        due("1", owners(x, 0));
        due(false, x.undo(0));
        due("a", text(x, 0));
    }

    private static void promise7_characterThatIsGoneOnlyAtTheCentreIsStillThere() {
        Couplet x = shared("ab");
        x.delete(1, 1);
        x.deliverUp(1);
        due("a", centre(x));
        due(true, x.undo(0));
        due("a", text(x, 0));
        x.deliverAll();
        due("0 n-1", message(x, 3));
        due("a", text(x, 1));
    }

    // Deletions

    private static void promise7_deletedCharacterComesBackToAnEmptyText() {
        Couplet x = typed(0, "a");
        x.erase(0);
        due(true, x.undo(0));
        due("a", text(x, 0));
        due(1, x.cursor(0));
    }

    private static void promise7_deletedCharacterComesBackAtPosition0() {
        Couplet x = typed(0, "abc");
        x.delete(0, 0);
        due(true, x.undo(0));
        due("abc", text(x, 0));
        due(1, x.cursor(0));
    }

    private static void promise7_deletedCharacterComesBackAtTheLength() {
        Couplet x = typed(0, "abc");
        x.delete(0, 2);
        x.moveCursor(0, 0);
        due(true, x.undo(0));
        due("abc", text(x, 0));
        due(3, x.cursor(0));
    }

    private static void promise7_characterPutBackIsOwnedByTheEndThatUndoes() {
        Couplet x = shared("abc");
        x.delete(1, 1);
        due(true, x.undo(1));
        due("010", owners(x, 1));
        x.deliverAll();
        due("abc", text(x, 0));
        due("010", owners(x, 0));
        Couplet y = typed(1, "abc");
        y.deliverAll();
        y.delete(0, 1);
        due(true, y.undo(0));
        due("101", owners(y, 0));
        y.deliverAll();
        due("101", owners(y, 1));
    }

    private static void promise7_bothEndsPutBackOneCharacterEach() {
        Couplet x = shared("a");
        x.delete(0, 0);
        x.delete(1, 0);
        x.deliverAll();
        due(true, x.undo(0));
        due(true, x.undo(1));
        x.deliverAll();
        due("aa", text(x, 1));
        due("01", owners(x, 1));
    }

    /** An end deletes the d of "abcdef", then the other one acts; what is there when the d is put back. */
    private static void duePutBack(String want, char kind, int position) {
        for (int end = 0; end < 2; end++) {
            Couplet x = shared("abcdef");
            x.delete(end, 3);
            x.deliverAll();
            if (kind == 'i') {
                x.insert(1 - end, position, '0');
            } else {
                x.delete(1 - end, position);
            }
            x.deliverAll();
            due(true, x.undo(end));
            x.deliverAll();
            due(want, text(x, 0));
            due(want, text(x, 1));
        }
    }

    private static void promise7_placeMovesByAnInsertionAtALowerPosition() {
        duePutBack("ab0cdef", 'i', 2);
        duePutBack("0abcdef", 'i', 0);
    }

    private static void promise7_placeStaysByAnInsertionAtTheSamePosition() {
        duePutBack("abcd0ef", 'i', 3);
    }

    private static void promise7_placeStaysByAnInsertionAtAHigherPosition() {
        duePutBack("abcde0f", 'i', 4);
        duePutBack("abcdef0", 'i', 5);
    }

    private static void promise7_placeMovesByADeletionAtALowerPosition() {
        duePutBack("abdef", 'd', 2);
        duePutBack("bcdef", 'd', 0);
    }

    private static void promise7_placeStaysByADeletionAtTheSamePosition() {
        duePutBack("abcdf", 'd', 3);
    }

    private static void promise7_placeStaysByADeletionAtAHigherPosition() {
        duePutBack("abcde", 'd', 4);
    }

    private static void promise7_placeMovesByWhatTheOperationOfTheOtherEndBecame() {
        // Behind the d for the end 0, at the place of the d for the end 1, where the d is no more.
        Couplet x = shared("abcdef");
        x.delete(1, 3);
        x.insert(0, 4, '0');
        x.deliverUp(0);
        x.deliverDown(1);
        due("abc0ef", text(x, 1));
        due(true, x.undo(1));
        due("abcd0ef", text(x, 1));
    }

    private static void promise7_placeStaysByAnOperationThatBecameNothing() {
        Couplet x = shared("abcdef");
        x.delete(1, 3);
        x.delete(1, 0);
        x.delete(0, 0);
        x.deliverUp(0);
        x.deliverDown(1);
        due("bcef", text(x, 1));
        due(true, x.undo(1));
        due("abcef", text(x, 1));
        due(true, x.undo(1));
        due("abcdef", text(x, 1));
    }

    private static void promise7_placeMovesByOperationsThatUndo() {
        Couplet x = shared("abcd");
        x.delete(0, 3);
        x.delete(0, 0);
        due(true, x.undo(0));
        due(true, x.undo(0));
        due("abcd", text(x, 0));
    }

    private static void promise7_placeStaysByOwnDeletionsAtTheSamePosition() {
        Couplet x = shared("abcd");
        x.delete(0, 1);
        x.delete(0, 1);
        due(true, x.undo(0));
        due("acd", text(x, 0));
        due(true, x.undo(0));
        due("abcd", text(x, 0));
    }

    private static void promise7_placesOfAllDeletionsMoveNotOnlyTheLatestOne() {
        Couplet x = shared("abcdef");
        x.delete(1, 5);
        x.delete(1, 3);
        x.deliverAll();
        x.insert(0, 0, '0');
        x.deliverAll();
        due(true, x.undo(1));
        due("0abcde", text(x, 1));
        due(true, x.undo(1));
        due("0abcdef", text(x, 1));
    }

    private static void promise7_placesOfErasuresMeetAtTheLowestOne() {
        // The c stays ahead: what is put back at the place itself does not move it.
        Couplet x = typed(0, "abc");
        x.erase(0);
        x.erase(0);
        due(true, x.undo(0));
        due("ab", text(x, 0));
        due(true, x.undo(0));
        due("acb", text(x, 0));
        due(2, x.cursor(0));
    }

    // Refused

    private static void promise7_the60thCharacterIsPutBack() {
        Couplet x = typed(0, "x".repeat(60));
        x.delete(0, 0);
        due(true, x.undo(0));
        due(60, x.length(0));
    }

    private static void promise7_the61stCharacterIsNotPutBack() {
        Couplet x = typed(0, "x".repeat(60));
        x.deliverAll();
        x.delete(0, 10);
        x.deliverAll();
        x.insert(1, 0, 'y');
        x.deliverAll();
        due(60, x.length(0));
        dueRefused(STATE, x, () -> x.undo(0));
        due(61, x.kept(0));
        // The refusal has left the place as well.
        x.delete(1, 59);
        x.deliverAll();
        due(true, x.undo(0));
        due(12, x.cursor(0));
    }

    private static void promise7_noneIsPutBackIntoATextLongerThan60() {
        Couplet x = longer(2);
        x.delete(0, 0);
        due(61, x.length(0));
        dueRefused(STATE, x, () -> x.undo(0));
    }

    private static void promise7_insertionIsUndoneInATextOf60AndMore() {
        Couplet x = typed(0, "x".repeat(60));
        due(true, x.undo(0));
        due(59, x.length(0));
        Couplet y = longer(2);
        due(true, y.undo(0));
        due(61, y.length(0));
    }

    private static void promise7_goneCharacterIsNoMatterInATextOf60AndMore() {
        Couplet x = longer(2);
        x.delete(1, 59);
        x.deliverAll();
        due(61, x.length(0));
        due(false, x.undo(0));
    }

    private static void promise7_the200thOperationUndoesAnInsertion() {
        Couplet x = made(199);
        due("m", text(x, 1));
        due(true, x.undo(1));
        due("", text(x, 1));
    }

    private static void promise7_the200thOperationUndoesADeletion() {
        Couplet x = made(199);
        due("", text(x, 0));
        due(true, x.undo(0));
        due("m", text(x, 0));
    }

    private static void promise7_the201stOperationUndoesNoInsertion() {
        Couplet x = exhausted();
        dueRefused(STATE, x, () -> x.undo(0));
    }

    private static void promise7_the201stOperationUndoesNoDeletion() {
        Couplet x = made(200);
        dueRefused(STATE, x, () -> x.undo(0), () -> x.undo(1));
    }

    private static void promise7_goneCharacterIsNoMatterWhen200OperationsWereMade() {
        Couplet x = typed(0, "z");
        x.deliverAll();
        x.delete(1, 0);
        for (int i = 0; i < 99; i++) {
            x.type(1, 'b');
            x.erase(1);
        }
        dueThrow(STATE, () -> x.undo(0));
        x.deliverUp(1);
        x.deliverDown(0);
        due(false, x.undo(0));
        due(0, x.kept(0));
    }

    private static void promise7_noSuchEndComesAheadOfAllElse() {
        Couplet x = made(200);
        dueRefused(INDEX, x, () -> x.undo(2), () -> x.undo(-1));
        Couplet none = new Couplet();
        dueRefused(INDEX, none, () -> none.undo(2), () -> none.undo(-1));
    }

    private static void promise7_nothingKeptComesAheadOf200Operations() {
        Couplet x = new Couplet();
        for (int i = 0; i < 100; i++) {
            x.type(0, 'a');
            x.undo(0);
        }
        dueRefused(ELEMENT, x, () -> x.undo(0), () -> x.undo(1));
    }

    private static void promise7_nothingKeptComesAheadOf60Characters() {
        Couplet x = typed(0, "x".repeat(60));
        x.deliverAll();
        due(60, x.length(1));
        dueRefused(ELEMENT, x, () -> x.undo(1));
    }
}
