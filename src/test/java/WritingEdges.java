import java.util.ArrayList;
import java.util.List;

/** The boundary cases of the promises 1 to 6: a new object, and what an end writes and erases. */
final class WritingEdges extends Checks {

    private interface Writing {
        Object answer(char character);
    }

    /** Calls with all characters below the least one, and with those above the greatest one up to 255. */
    private static Call[] writingAllWrong(Writing writing) {
        List<Call> calls = new ArrayList<>();
        for (char c = 0; c < 256; c++) {
            char wrong = c;
            if (c < ' ' || c > '~') {
                calls.add(() -> writing.answer(wrong));
            }
        }
        return calls.toArray(new Call[0]);
    }

    // Promise 1: a new object

    private static void promise1_textsOfBothEndsAndTheCentreAreEmpty() {
        Couplet x = new Couplet();
        due(0, x.length(0));
        due(0, x.length(1));
        due(0, x.centreLength());
        due(0, x.lengthByHistory(0));
        due(0, x.lengthByHistory(1));
    }

    private static void promise1_cursorsAndMarksAreAt0() {
        Couplet x = new Couplet();
        due(0, x.cursor(0));
        due(0, x.cursor(1));
        due(0, x.mark(0));
        due(0, x.mark(1));
    }

    private static void promise1_nothingIsUnderWayOrKept() {
        Couplet x = new Couplet();
        for (int end = 0; end < 2; end++) {
            due(0, x.sent(end));
            due(0, x.waiting(end));
            due(0, x.runs(end));
            due(0, x.up(end));
            due(0, x.down(end));
            due(0, x.kept(end));
            due(0, x.revision(end));
        }
        due(0, x.centreRevision());
    }

    private static void promise1_twoObjectsHaveNothingInCommon() {
        Couplet other = exhausted();
        other.deliverAll();
        Couplet x = new Couplet();
        due(state(new Couplet()), state(x));
        due(1, x.type(0, 'a'));
        due(60, other.length(1));
    }

    private static void promise1_the512thCallIsStillAnswered() {
        Couplet x = new Couplet();
        for (int call = 1; call <= 508; call++) {
            due(0, x.moveCursor(0, 0));
        }
        due(1, x.type(0, 'a'));
        due(3, x.deliverAll());
        due('a', x.charAt(1, 0));
        due(true, x.agree());
    }

    // Promise 2: insert

    private static void promise2_endsAre0And1() {
        Couplet x = new Couplet();
        dueTwoEnds(x, end -> x.insert(end, 0, (char) ('a' + end)));
        due("a", text(x, 0));
        due("b", text(x, 1));
    }

    private static void promise2_position0OfAnEmptyTextIsTaken() {
        Couplet x = new Couplet();
        due(1, x.insert(0, 0, 'a'));
        due("a", text(x, 0));
    }

    private static void promise2_position0MovesAllCharacters() {
        Couplet x = typed(0, "bc");
        due(3, x.insert(0, 0, 'a'));
        due("abc", text(x, 0));
    }

    private static void promise2_positionInTheMiddleMovesThoseFromThereOn() {
        Couplet x = typed(0, "ac");
        due(3, x.insert(0, 1, 'b'));
        due("abc", text(x, 0));
    }

    private static void promise2_positionOfTheLengthIsTaken() {
        Couplet x = typed(0, "ab");
        due(3, x.insert(0, 2, 'c'));
        due("abc", text(x, 0));
    }

    private static void promise2_positionAboveTheLengthIsRefused() {
        Couplet x = typed(0, "ab");
        dueRefused(ARGUMENT, x, () -> x.insert(0, 3, 'c'), () -> x.insert(0, Integer.MAX_VALUE, 'c'),
                () -> x.insert(1, 1, 'c'));
    }

    private static void promise2_positionBelow0IsRefused() {
        Couplet x = typed(0, "ab");
        dueRefused(ARGUMENT, x, () -> x.insert(0, -1, 'c'), () -> x.insert(0, Integer.MIN_VALUE, 'c'));
    }

    private static void promise2_positionIsOneOfTheEndsOwnText() {
        Couplet x = shared("abc");
        x.type(0, 'd');
        dueRefused(ARGUMENT, x, () -> x.insert(1, 4, 'e'));
        due(4, x.insert(1, 3, 'e'));
    }

    private static void promise2_leastCharacterIsTaken() {
        Couplet x = new Couplet();
        due(1, x.insert(0, 0, ' '));
        due(' ', x.charAt(0, 0));
    }

    private static void promise2_greatestCharacterIsTaken() {
        Couplet x = new Couplet();
        due(1, x.insert(0, 0, '~'));
        due('~', x.charAt(0, 0));
    }

    private static void promise2_characterBelowTheLeastIsRefused() {
        Couplet x = new Couplet();
        dueRefused(ARGUMENT, x, () -> x.insert(0, 0, (char) 31), () -> x.insert(0, 0, (char) 0));
    }

    private static void promise2_characterAboveTheGreatestIsRefused() {
        Couplet x = new Couplet();
        dueRefused(ARGUMENT, x, () -> x.insert(0, 0, (char) 127), () -> x.insert(0, 0, (char) 65535),
                () -> x.insert(0, 0, (char) (256 + 'a')));
    }

    private static void promise2_eachCharacterBetweenThemIsTaken() {
        Couplet x = new Couplet();
        for (char c = ' '; c <= '~'; c++) {
            due(1, x.insert(0, 0, c));
            due(c, x.charAt(0, 0));
            due(c, x.delete(0, 0));
        }
    }

    private static void promise2_noCharacterBesideThemIsTaken() {
        Couplet x = typed(0, "a");
        dueRefused(ARGUMENT, x, writingAllWrong(c -> x.insert(0, 0, c)));
    }

    private static void promise2_the60thCharacterIsTaken() {
        Couplet x = typed(0, "x".repeat(59));
        due(60, x.insert(0, 59, 'y'));
        due('y', x.charAt(0, 59));
    }

    private static void promise2_the61stCharacterIsRefused() {
        Couplet x = typed(1, "x".repeat(60));
        dueRefused(STATE, x, () -> x.insert(1, 60, 'y'), () -> x.insert(1, 0, 'y'));
    }

    private static void promise2_oneDeletionMakesRoomForOneCharacter() {
        Couplet x = typed(0, "x".repeat(60));
        x.delete(0, 30);
        due(60, x.insert(0, 30, 'y'));
        dueRefused(STATE, x, () -> x.insert(0, 30, 'y'));
    }

    private static void promise2_theOtherEndMakesTheTextLongerThan60() {
        Couplet x = longer(1);
        due(61, x.length(0));
        due(61, x.length(1));
        due(120, longer(60).length(0));
    }

    private static void promise2_textLongerThan60TakesNoCharacter() {
        Couplet x = longer(1);
        dueRefused(STATE, x, () -> x.insert(0, 0, 'z'), () -> x.insert(1, 61, 'z'));
    }

    private static void promise2_textLongerThan60TakesOneWhenItHas59() {
        Couplet x = longer(1);
        x.delete(0, 0);
        dueRefused(STATE, x, () -> x.insert(0, 0, 'z'));
        x.delete(0, 0);
        due(60, x.insert(0, 0, 'z'));
    }

    private static void promise2_fullTextOfTheOtherEndOrTheCentreDoesNotMatter() {
        Couplet x = typed(1, "x".repeat(60));
        due(1, x.insert(0, 0, 'a'));
        x.deliverUp(1);
        x.deliverDown(1);
        x.deliverUp(1);
        due(60, x.centreLength());
        due(2, x.insert(0, 0, 'b'));
    }

    private static void promise2_the200thOperationIsMade() {
        Couplet x = made(199);
        due(1, x.insert(0, 0, 'a'));
        due("a", text(x, 0));
    }

    private static void promise2_the201stOperationIsRefused() {
        Couplet x = made(200);
        dueRefused(STATE, x, () -> x.insert(0, 0, 'a'), () -> x.insert(1, 0, 'a'));
        x.deliverAll();
        dueRefused(STATE, x, () -> x.insert(0, 0, 'a'));
    }

    private static void promise2_operationsOfOneEndAloneAreCounted() {
        Couplet x = new Couplet();
        for (int i = 0; i < 100; i++) {
            due(1, x.insert(1, 0, 'a'));
            due('a', x.delete(1, 0));
        }
        dueRefused(STATE, x, () -> x.insert(0, 0, 'a'), () -> x.insert(1, 0, 'a'));
    }

    private static void promise2_operationsThatUndoAreCounted() {
        Couplet x = new Couplet();
        for (int i = 0; i < 100; i++) {
            due(1, x.insert(i % 2, 0, 'a'));
            due(true, x.undo(i % 2));
        }
        dueRefused(STATE, x, () -> x.insert(0, 0, 'a'));
        Couplet y = new Couplet();
        for (int i = 0; i < 50; i++) {
            due(1, y.insert(i % 2, 0, 'a'));
            due('a', y.delete(i % 2, 0));
            due(true, y.undo(i % 2));
            due('a', y.delete(i % 2, 0));
        }
        dueRefused(STATE, y, () -> y.insert(0, 0, 'a'));
    }

    private static void promise2_undoingWithoutAnOperationIsNotCounted() {
        Couplet x = new Couplet();
        for (int i = 0; i < 20; i++) {
            x.type(0, 'a');
            x.erase(0);
            due(true, x.undo(0));
            x.erase(0);
            due(true, x.undo(0));
            due(false, x.undo(0));
            x.erase(0);
        }
        for (int i = 0; i < 40; i++) {
            x.type(1, 'b');
            x.erase(1);
        }
        dueRefused(STATE, x, () -> x.insert(0, 0, 'a'));
    }

    private static void promise2_refusedCallsAreNotCounted() {
        Couplet x = new Couplet();
        for (int i = 0; i < 25; i++) {
            dueThrow(INDEX, () -> x.insert(2, 0, 'a'));
            dueThrow(ARGUMENT, () -> x.insert(0, 1, 'a'));
            dueThrow(ARGUMENT, () -> x.insert(0, 0, (char) 127));
            dueThrow(ARGUMENT, () -> x.delete(0, 0));
            dueThrow(ARGUMENT, () -> x.type(0, (char) 31));
            dueThrow(ELEMENT, () -> x.erase(0));
            dueThrow(ELEMENT, () -> x.undo(0));
        }
        for (int i = 0; i < 100; i++) {
            due(1, x.insert(0, 0, 'a'));
            due('a', x.delete(0, 0));
        }
        dueThrow(STATE, () -> x.insert(0, 0, 'a'));
    }

    private static void promise2_deliveriesAndCursorsAreNotCounted() {
        Couplet x = made(198);
        x.moveCursor(0, 0);
        x.deliverAll();
        due(3, x.insert(0, 0, 'a'));
        due(4, x.insert(0, 0, 'a'));
        dueRefused(STATE, x, () -> x.insert(0, 0, 'a'));
    }

    private static void promise2_noSuchEndComesAheadOfAllElse() {
        Couplet x = exhausted();
        dueRefused(INDEX, x, () -> x.insert(2, -1, 'a'), () -> x.insert(-1, 0, (char) 0),
                () -> x.insert(2, 61, (char) 127), () -> x.insert(2, 0, 'a'));
    }

    private static void promise2_noSuchPositionComesAheadOfTheLimits() {
        Couplet full = typed(0, "x".repeat(60));
        dueRefused(ARGUMENT, full, () -> full.insert(0, 61, 'a'), () -> full.insert(0, -1, 'a'));
        Couplet done = made(200);
        dueRefused(ARGUMENT, done, () -> done.insert(0, 1, 'a'), () -> done.insert(1, -1, 'a'));
    }

    private static void promise2_wrongCharacterComesAheadOfTheLimits() {
        Couplet full = typed(0, "x".repeat(60));
        dueRefused(ARGUMENT, full, () -> full.insert(0, 60, (char) 127), () -> full.insert(0, 0, (char) 31));
        Couplet done = made(200);
        dueRefused(ARGUMENT, done, () -> done.insert(0, 0, (char) 127), () -> done.insert(1, 0, (char) 31));
    }

    // Promise 3: delete

    private static void promise3_endsAre0And1() {
        Couplet x = shared("ab");
        dueTwoEnds(x, end -> x.delete(end, 0));
        due("b", text(x, 0));
        due("b", text(x, 1));
    }

    private static void promise3_firstPositionIsTaken() {
        Couplet x = typed(0, "abc");
        due('a', x.delete(0, 0));
        due("bc", text(x, 0));
    }

    private static void promise3_positionInTheMiddleMovesThoseBehind() {
        Couplet x = typed(0, "abc");
        due('b', x.delete(0, 1));
        due("ac", text(x, 0));
    }

    private static void promise3_lastPositionIsTaken() {
        Couplet x = typed(0, "abc");
        due('c', x.delete(0, 2));
        due("ab", text(x, 0));
    }

    private static void promise3_onlyCharacterLeavesAnEmptyText() {
        Couplet x = typed(1, "~");
        due('~', x.delete(1, 0));
        due(0, x.length(1));
        dueRefused(ARGUMENT, x, () -> x.delete(1, 0));
    }

    private static void promise3_positionOfTheLengthIsRefused() {
        Couplet x = typed(0, "abc");
        dueRefused(ARGUMENT, x, () -> x.delete(0, 3), () -> x.delete(0, Integer.MAX_VALUE));
    }

    private static void promise3_positionBelow0IsRefused() {
        Couplet x = typed(0, "abc");
        dueRefused(ARGUMENT, x, () -> x.delete(0, -1), () -> x.delete(0, Integer.MIN_VALUE));
    }

    private static void promise3_emptyTextHasNoPosition() {
        Couplet x = typed(0, "abc");
        dueRefused(ARGUMENT, x, () -> x.delete(1, 0));
        Couplet none = new Couplet();
        dueRefused(ARGUMENT, none, () -> none.delete(0, 0));
    }

    private static void promise3_lastPositionOfATextLongerThan60IsTaken() {
        Couplet x = longer(60);
        due('y', x.delete(0, 119));
        due(119, x.length(0));
        dueRefused(ARGUMENT, x, () -> x.delete(0, 119));
    }

    private static void promise3_characterOfTheOtherEndIsDeleted() {
        Couplet x = shared("ab");
        due('b', x.delete(1, 1));
        x.deliverAll();
        due("a", text(x, 0));
        due("a", centre(x));
    }

    private static void promise3_the200thOperationIsMade() {
        Couplet x = made(199);
        due('m', x.delete(1, 0));
        due(0, x.length(1));
    }

    private static void promise3_the201stOperationIsRefused() {
        Couplet x = exhausted();
        dueRefused(STATE, x, () -> x.delete(0, 0), () -> x.delete(0, 59));
    }

    private static void promise3_noSuchEndComesAheadOfAllElse() {
        Couplet x = exhausted();
        dueRefused(INDEX, x, () -> x.delete(2, 0), () -> x.delete(-1, -1), () -> x.delete(2, 60));
    }

    private static void promise3_noSuchPositionComesAheadOf200Operations() {
        Couplet x = exhausted();
        dueRefused(ARGUMENT, x, () -> x.delete(0, 60), () -> x.delete(0, -1), () -> x.delete(1, 0));
    }

    // Promise 4: type

    private static void promise4_endsAre0And1() {
        Couplet x = new Couplet();
        dueTwoEnds(x, end -> x.type(end, 'a'));
        due("a", text(x, 0));
        due("a", text(x, 1));
    }

    private static void promise4_cursorAt0PutsItAheadOfAll() {
        Couplet x = typed(0, "bc");
        x.moveCursor(0, 0);
        due(1, x.type(0, 'a'));
        due("abc", text(x, 0));
    }

    private static void promise4_cursorInTheMiddlePutsItThere() {
        Couplet x = typed(0, "ac");
        x.moveCursor(0, 1);
        due(2, x.type(0, 'b'));
        due("abc", text(x, 0));
    }

    private static void promise4_cursorAtTheLengthPutsItBehindAll() {
        Couplet x = typed(0, "ab");
        due(3, x.type(0, 'c'));
        due("abc", text(x, 0));
        due(3, x.cursor(0));
    }

    private static void promise4_leastAndGreatestCharacterAreTaken() {
        Couplet x = new Couplet();
        due(1, x.type(0, ' '));
        due(2, x.type(0, '~'));
        due(" ~", text(x, 0));
    }

    private static void promise4_charactersBesideThemAreRefused() {
        Couplet x = typed(0, "a");
        dueRefused(ARGUMENT, x, () -> x.type(0, (char) 31), () -> x.type(0, (char) 127),
                () -> x.type(0, (char) 0), () -> x.type(0, (char) 65535), () -> x.type(0, (char) (256 + 'a')));
    }

    private static void promise4_noCharacterBesideThemIsTaken() {
        Couplet x = typed(0, "a");
        dueRefused(ARGUMENT, x, writingAllWrong(c -> x.type(0, c)));
    }

    private static void promise4_the60thCharacterIsTaken() {
        Couplet x = typed(1, "x".repeat(59));
        due(60, x.type(1, 'y'));
        due(60, x.length(1));
    }

    private static void promise4_the61stCharacterIsRefused() {
        Couplet x = typed(1, "x".repeat(60));
        dueRefused(STATE, x, () -> x.type(1, 'y'));
        x.moveCursor(1, 0);
        dueRefused(STATE, x, () -> x.type(1, 'y'));
    }

    private static void promise4_textLongerThan60TakesNoCharacter() {
        Couplet x = longer(1);
        dueRefused(STATE, x, () -> x.type(0, 'z'), () -> x.type(1, 'z'));
        x.erase(0);
        dueRefused(STATE, x, () -> x.type(0, 'z'));
        x.erase(0);
        due(59, x.type(0, 'z'));
        due(60, x.length(0));
    }

    private static void promise4_the200thOperationIsMade() {
        Couplet x = made(199);
        due(1, x.type(0, 'a'));
        due("a", text(x, 0));
    }

    private static void promise4_the201stOperationIsRefused() {
        Couplet x = made(200);
        dueRefused(STATE, x, () -> x.type(0, 'a'), () -> x.type(1, 'a'));
    }

    private static void promise4_noSuchEndComesAheadOfAllElse() {
        Couplet x = exhausted();
        dueRefused(INDEX, x, () -> x.type(2, 'a'), () -> x.type(-1, (char) 127));
    }

    private static void promise4_wrongCharacterComesAheadOfTheLimits() {
        Couplet full = typed(0, "x".repeat(60));
        dueRefused(ARGUMENT, full, () -> full.type(0, (char) 31));
        Couplet done = made(200);
        dueRefused(ARGUMENT, done, () -> done.type(0, (char) 127));
    }

    // Promise 5: erase

    private static void promise5_endsAre0And1() {
        Couplet x = shared("ab");
        x.moveCursor(0, 1);
        x.moveCursor(1, 2);
        dueTwoEnds(x, end -> x.erase(end));
        due("b", text(x, 0));
        due("a", text(x, 1));
    }

    private static void promise5_cursorAt0IsRefused() {
        Couplet x = shared("ab");
        dueRefused(ELEMENT, x, () -> x.erase(0), () -> x.erase(1));
    }

    private static void promise5_emptyTextIsRefused() {
        Couplet x = new Couplet();
        dueRefused(ELEMENT, x, () -> x.erase(0), () -> x.erase(1));
    }

    private static void promise5_cursorAt1ErasesTheFirstCharacter() {
        Couplet x = shared("ab");
        x.moveCursor(0, 1);
        due('a', x.erase(0));
        due("b", text(x, 0));
        due(0, x.cursor(0));
        dueRefused(ELEMENT, x, () -> x.erase(0));
    }

    private static void promise5_cursorAtTheLengthErasesTheLastCharacter() {
        Couplet x = typed(0, "abc");
        due('c', x.erase(0));
        due("ab", text(x, 0));
        due(2, x.cursor(0));
    }

    private static void promise5_lastOfATextLongerThan60IsErased() {
        Couplet x = longer(60);
        x.moveCursor(0, 120);
        due('y', x.erase(0));
        due(119, x.cursor(0));
    }

    private static void promise5_the200thOperationIsMade() {
        Couplet x = made(199);
        due('m', x.erase(1));
        due(0, x.length(1));
    }

    private static void promise5_the201stOperationIsRefused() {
        Couplet x = exhausted();
        dueRefused(STATE, x, () -> x.erase(0));
    }

    private static void promise5_noSuchEndComesAheadOfAllElse() {
        Couplet x = made(200);
        dueRefused(INDEX, x, () -> x.erase(2), () -> x.erase(-1));
    }

    private static void promise5_cursorAt0ComesAheadOf200Operations() {
        Couplet x = exhausted();
        x.moveCursor(0, 0);
        dueRefused(ELEMENT, x, () -> x.erase(0), () -> x.erase(1));
    }

    // Promise 6: moveCursor

    private static void promise6_endsAre0And1() {
        Couplet x = shared("ab");
        dueTwoEnds(x, end -> x.moveCursor(end, 1 + end));
        due(1, x.cursor(0));
        due(2, x.cursor(1));
    }

    private static void promise6_position0IsTaken() {
        Couplet x = typed(0, "ab");
        due(2, x.moveCursor(0, 0));
        due(0, x.cursor(0));
        due(0, x.moveCursor(1, 0));
    }

    private static void promise6_positionOfTheLengthIsTaken() {
        Couplet x = shared("ab");
        due(0, x.moveCursor(0, 2));
        due(2, x.cursor(0));
        due(2, x.moveCursor(0, 2));
    }

    private static void promise6_positionAboveTheLengthIsRefused() {
        Couplet x = typed(0, "ab");
        dueRefused(ARGUMENT, x, () -> x.moveCursor(0, 3), () -> x.moveCursor(0, Integer.MAX_VALUE),
                () -> x.moveCursor(1, 1));
    }

    private static void promise6_positionBelow0IsRefused() {
        Couplet x = typed(0, "ab");
        dueRefused(ARGUMENT, x, () -> x.moveCursor(0, -1), () -> x.moveCursor(0, Integer.MIN_VALUE));
    }

    private static void promise6_noSuchEndComesAheadOfNoSuchPosition() {
        Couplet x = typed(0, "ab");
        dueRefused(INDEX, x, () -> x.moveCursor(2, 3), () -> x.moveCursor(-1, -1));
    }

    private static void promise6_lengthAbove60IsTaken() {
        Couplet x = longer(1);
        due(60, x.moveCursor(0, 61));
        due(61, x.cursor(0));
        dueRefused(ARGUMENT, x, () -> x.moveCursor(0, 62));
    }

    private static void promise6_isNoOperation() {
        Couplet x = exhausted();
        due(60, x.moveCursor(0, 30));
        due(30, x.moveCursor(0, 60));
        Couplet y = shared("ab");
        y.moveCursor(0, 1);
        due(0, y.up(0));
        due(0, y.sent(0));
        due(2, y.kept(0));
    }
}
