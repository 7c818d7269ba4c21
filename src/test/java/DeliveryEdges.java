/** The boundary cases of the promises 8 to 10: messages on their way, and what they become. */
final class DeliveryEdges extends Checks {

    // Promise 8: deliverUp

    private static void promise8_endsAre0And1() {
        Couplet x = typed(0, "a");
        x.type(1, 'b');
        dueTwoEnds(x, end -> x.deliverUp(end));
        due(0, x.historyEnd(0));
        due(1, x.historyEnd(1));
    }

    private static void promise8_noMessageOfANewObject() {
        Couplet x = new Couplet();
        dueRefused(ELEMENT, x, () -> x.deliverUp(0), () -> x.deliverUp(1));
    }

    private static void promise8_messageOfTheOtherEndIsNone() {
        Couplet x = typed(0, "a");
        dueRefused(ELEMENT, x, () -> x.deliverUp(1));
        Couplet y = typed(1, "a");
        dueRefused(ELEMENT, y, () -> y.deliverUp(0));
    }

    private static void promise8_messageIsDeliveredOnce() {
        Couplet x = typed(0, "a");
        due(1, x.deliverUp(0));
        dueRefused(ELEMENT, x, () -> x.deliverUp(0), () -> x.deliverUp(1));
    }

    private static void promise8_waitingOperationsAreNoMessageBeforeTheAcknowledgement() {
        Couplet x = typed(0, "abc");
        due(1, x.deliverUp(0));
        dueRefused(ELEMENT, x, () -> x.deliverUp(0));
        due('o', x.deliverDown(1));
        dueRefused(ELEMENT, x, () -> x.deliverUp(0));
        due('a', x.deliverDown(0));
        due(2, x.deliverUp(0));
    }

    private static void promise8_noMessageWhenAllIsAcknowledged() {
        Couplet x = shared("abc");
        dueRefused(ELEMENT, x, () -> x.deliverUp(0), () -> x.deliverUp(1));
    }

    private static void promise8_noSuchEndComesAheadOfNoMessage() {
        Couplet x = new Couplet();
        dueRefused(INDEX, x, () -> x.deliverUp(2), () -> x.deliverUp(-1));
    }

    private static void promise8_firstOperationIsAMessageByItself() {
        Couplet x = typed(0, "abc");
        due(1, x.deliverUp(0));
        due("a", centre(x));
    }

    private static void promise8_runIsOneMessageHoweverLongItIs() {
        Couplet x = typed(0, "x".repeat(60));
        for (int i = 0; i < 60; i++) {
            x.erase(0);
        }
        due(1, x.deliverUp(0));
        x.deliverDown(0);
        due(59, x.deliverUp(0));
        x.deliverDown(0);
        due(60, x.deliverUp(0));
        due(0, x.centreLength());
        due(3, x.centreRevision());
    }

    private static void promise8_operationsThatAreNothingAreCounted() {
        for (int end = 0; end < 2; end++) {
            Couplet x = shared("ab");
            x.insert(end, 2, 'c');
            x.delete(end, 0);
            x.delete(end, 0);
            x.delete(1 - end, 0);
            x.deliverUp(end);
            x.deliverDown(end);
            x.deliverUp(1 - end);
            due(2, x.deliverUp(end));
            due(end + " n-1 d0", message(x, 4));
            due("c", centre(x));
        }
    }

    private static void promise8_acknowledgementAndOperationsAreSentEvenIfAllAreNothing() {
        Couplet x = shared("a");
        x.delete(0, 0);
        x.delete(1, 0);
        x.deliverUp(0);
        due(1, x.deliverUp(1));
        due("1 n-1", message(x, 2));
        due('a', x.deliverDown(0));
        due('o', x.deliverDown(0));
        due('o', x.deliverDown(1));
        due('a', x.deliverDown(1));
        due(3, x.revision(0));
        due(3, x.revision(1));
    }

    private static void promise8_messageIsNotTransformedByThoseUpToItsRevision() {
        Couplet x = typed(0, "a");
        x.deliverAll();
        x.insert(1, 1, 'b');
        x.deliverUp(1);
        due("1 i1", message(x, 1));
    }

    private static void promise8_messageIsTransformedByTheFirstOneBehindItsRevision() {
        Couplet x = typed(0, "a");
        x.deliverAll();
        x.insert(0, 0, 'c');
        x.insert(1, 1, 'b');
        x.deliverUp(0);
        x.deliverUp(1);
        due("1 i2", message(x, 2));
        due("cab", centre(x));
    }

    private static void promise8_messageIsTransformedByTheLastOneBehindItsRevision() {
        Couplet x = typed(0, "a");
        x.deliverAll();
        x.insert(1, 1, 'b');
        for (int i = 0; i < 3; i++) {
            x.insert(0, 0, 'c');
            x.deliverUp(0);
            x.deliverDown(0);
        }
        x.deliverUp(1);
        due("1 i4", message(x, 4));
    }

    private static void promise8_messageIsTransformedByMessagesInTheirOrder() {
        Couplet x = shared("abc");
        x.insert(1, 2, '1');
        x.delete(0, 1);
        x.deliverUp(0);
        x.deliverDown(0);
        x.delete(0, 0);
        x.deliverUp(0);
        x.deliverUp(1);
        due("1 i0", message(x, 4));
        due("1c", centre(x));
    }

    private static void promise8_messageIsTransformedByOperationsOfAMessageInTheirOrder() {
        Couplet x = shared("abc");
        x.insert(1, 2, '1');
        x.insert(0, 3, 'z');
        x.delete(0, 1);
        x.delete(0, 0);
        x.deliverUp(0);
        x.deliverDown(0);
        due(2, x.deliverUp(0));
        x.deliverUp(1);
        due("1 i0", message(x, 4));
        due("1cz", centre(x));
    }

    private static void promise8_messageHasTheRevisionOfWhenItWasSent() {
        // The a of the end 0 comes to the end 1 when the b is sent already, but not delivered.
        Couplet x = typed(0, "a");
        x.type(1, 'b');
        x.deliverUp(0);
        x.deliverDown(1);
        due(1, x.revision(1));
        x.deliverUp(1);
        due("1 i1", message(x, 1));
        Couplet y = shared("abc");
        y.insert(0, 3, 'z');
        y.insert(1, 0, 'y');
        y.deliverUp(1);
        y.deliverDown(0);
        due(3, y.revision(0));
        y.deliverUp(0);
        due("0 i4", message(y, 3));
    }

    private static void promise8_waitingOperationsHaveTheRevisionWithTheAcknowledgement() {
        Couplet x = typed(0, "ab");
        x.deliverUp(0);
        x.deliverDown(0);
        x.deliverUp(0);
        due("0 i1", message(x, 1));
        due("ab", centre(x));
    }

    /** What the entry of an operation becomes in the history, if the other one's is there before it. */
    private static String entered(int end, char kind, int position, char otherKind, int otherPosition) {
        Couplet x = shared("abcdef");
        int before = x.centreRevision();
        act(x, 1 - end, otherKind, otherPosition);
        act(x, end, kind, position);
        x.deliverUp(1 - end);
        x.deliverUp(end);
        String entry = message(x, before + 1);
        x.deliverAll();
        due(true, x.agree());
        due(text(x, 0), byHistory(x, 0));
        due(text(x, 1), byHistory(x, 1));
        return entry;
    }

    private static void promise8_insertionMovesByAnInsertionAtALowerPosition() {
        due("1 i4", entered(1, 'i', 3, 'i', 2));
        due("0 i4", entered(0, 'i', 3, 'i', 2));
        due("1 i7", entered(1, 'i', 6, 'i', 0));
    }

    private static void promise8_insertionMovesByOneOfTheEnd0AtTheSamePosition() {
        due("1 i4", entered(1, 'i', 3, 'i', 3));
        due("1 i1", entered(1, 'i', 0, 'i', 0));
        due("1 i7", entered(1, 'i', 6, 'i', 6));
    }

    private static void promise8_insertionStaysByOneOfTheEnd1AtTheSamePosition() {
        due("0 i3", entered(0, 'i', 3, 'i', 3));
        due("0 i0", entered(0, 'i', 0, 'i', 0));
        due("0 i6", entered(0, 'i', 6, 'i', 6));
    }

    private static void promise8_insertionStaysByAnInsertionAtAHigherPosition() {
        due("1 i3", entered(1, 'i', 3, 'i', 4));
        due("0 i3", entered(0, 'i', 3, 'i', 4));
    }

    private static void promise8_insertionMovesByADeletionAtALowerPosition() {
        due("1 i2", entered(1, 'i', 3, 'd', 2));
        due("0 i2", entered(0, 'i', 3, 'd', 2));
        due("0 i5", entered(0, 'i', 6, 'd', 5));
        due("1 i0", entered(1, 'i', 1, 'd', 0));
    }

    private static void promise8_insertionStaysByADeletionAtTheSamePosition() {
        due("1 i3", entered(1, 'i', 3, 'd', 3));
        due("0 i3", entered(0, 'i', 3, 'd', 3));
        due("0 i0", entered(0, 'i', 0, 'd', 0));
    }

    private static void promise8_insertionStaysByADeletionAtAHigherPosition() {
        due("1 i3", entered(1, 'i', 3, 'd', 4));
        due("0 i3", entered(0, 'i', 3, 'd', 4));
    }

    private static void promise8_deletionMovesByAnInsertionAtALowerPosition() {
        due("1 d4", entered(1, 'd', 3, 'i', 2));
        due("0 d4", entered(0, 'd', 3, 'i', 2));
    }

    private static void promise8_deletionMovesByAnInsertionAtTheSamePosition() {
        due("1 d4", entered(1, 'd', 3, 'i', 3));
        due("0 d4", entered(0, 'd', 3, 'i', 3));
        due("0 d1", entered(0, 'd', 0, 'i', 0));
    }

    private static void promise8_deletionStaysByAnInsertionAtAHigherPosition() {
        due("1 d3", entered(1, 'd', 3, 'i', 4));
        due("0 d3", entered(0, 'd', 3, 'i', 4));
        due("1 d5", entered(1, 'd', 5, 'i', 6));
    }

    private static void promise8_deletionMovesByADeletionAtALowerPosition() {
        due("1 d2", entered(1, 'd', 3, 'd', 2));
        due("0 d2", entered(0, 'd', 3, 'd', 2));
        due("0 d0", entered(0, 'd', 1, 'd', 0));
    }

    private static void promise8_deletionBecomesNothingByOneAtTheSamePosition() {
        due("1 n-1", entered(1, 'd', 3, 'd', 3));
        due("0 n-1", entered(0, 'd', 3, 'd', 3));
        due("0 n-1", entered(0, 'd', 0, 'd', 0));
        due("1 n-1", entered(1, 'd', 5, 'd', 5));
    }

    private static void promise8_deletionStaysByADeletionAtAHigherPosition() {
        due("1 d3", entered(1, 'd', 3, 'd', 4));
        due("0 d3", entered(0, 'd', 3, 'd', 4));
    }

    private static void promise8_nothingStaysNothing() {
        Couplet x = shared("abc");
        x.delete(1, 0);
        x.delete(0, 0);
        x.insert(0, 0, 'x');
        x.delete(0, 1);
        for (int i = 0; i < 3; i++) {
            x.deliverUp(0);
            x.deliverDown(0);
        }
        x.deliverUp(1);
        due("1 n-1", message(x, 5));
        due("xc", centre(x));
    }

    private static void promise8_nothingTransformsNothingElse() {
        Couplet x = shared("abc");
        x.delete(0, 0);
        x.insert(0, 0, 'x');
        x.delete(1, 0);
        x.deliverUp(0);
        x.deliverDown(0);
        x.deliverUp(1);
        due("1 n-1", message(x, 3));
        x.deliverUp(0);
        due("0 i0", message(x, 4));
        due("xbc", centre(x));
        Couplet y = shared("abc");
        y.delete(0, 0);
        y.delete(0, 1);
        y.delete(1, 0);
        y.deliverUp(0);
        y.deliverDown(0);
        y.deliverUp(1);
        y.deliverUp(0);
        due("0 d1", message(y, 4));
        due("b", centre(y));
    }

    /** The end 0 has sent that b and c go, but the end 1 was ahead with b, and then writes behind a. */
    private static Couplet runThatBeginsWithNothing() {
        Couplet x = shared("abcdef");
        x.insert(0, 6, 'z');
        x.delete(0, 1);
        x.delete(0, 1);
        x.deliverUp(0);
        x.deliverDown(0);
        x.delete(1, 1);
        x.deliverUp(1);
        x.deliverDown(1);
        x.deliverDown(1);
        x.insert(1, 1, '1');
        x.deliverUp(1);
        return x;
    }

    private static void promise8_operationsBehindNothingAreTransformedToo() {
        Couplet x = runThatBeginsWithNothing();
        due("a1cdefz", centre(x));
        due(2, x.deliverUp(0));
        due("0 n-1 d2", message(x, x.centreRevision() - 1));
        due("a1defz", centre(x));
    }

    // Promise 9: deliverDown

    private static void promise9_endsAre0And1() {
        Couplet x = typed(0, "a");
        x.deliverUp(0);
        dueTwoEnds(x, end -> x.deliverDown(end));
        due(1, x.revision(0));
        due(1, x.revision(1));
    }

    private static void promise9_noMessageOfANewObject() {
        Couplet x = new Couplet();
        dueRefused(ELEMENT, x, () -> x.deliverDown(0), () -> x.deliverDown(1));
    }

    private static void promise9_noMessageBeforeTheCentreGotOne() {
        Couplet x = typed(0, "a");
        dueRefused(ELEMENT, x, () -> x.deliverDown(0), () -> x.deliverDown(1));
    }

    private static void promise9_messageIsDeliveredOnce() {
        Couplet x = typed(0, "a");
        x.deliverUp(0);
        due('a', x.deliverDown(0));
        dueRefused(ELEMENT, x, () -> x.deliverDown(0));
        due('o', x.deliverDown(1));
        dueRefused(ELEMENT, x, () -> x.deliverDown(1));
    }

    private static void promise9_noSuchEndComesAheadOfNoMessage() {
        Couplet x = new Couplet();
        dueRefused(INDEX, x, () -> x.deliverDown(2), () -> x.deliverDown(-1));
    }

    private static void promise9_messagesComeInTheOrderInWhichTheyWereSent() {
        Couplet x = typed(0, "a");
        x.type(1, 'b');
        x.deliverUp(1);
        x.deliverUp(0);
        due('o', x.deliverDown(0));
        due("ab", text(x, 0));
        due('a', x.deliverDown(0));
        due('a', x.deliverDown(1));
        due('o', x.deliverDown(1));
        due("ab", text(x, 1));
        x.type(0, 'c');
        x.deliverUp(0);
        x.deliverDown(0);
        x.type(0, 'd');
        x.deliverUp(0);
        due('o', x.deliverDown(1));
        due("acb", text(x, 1));
        due('o', x.deliverDown(1));
        due("acdb", text(x, 1));
    }

    private static void promise9_acknowledgementWithoutWaitingOperationsSendsNothing() {
        Couplet x = typed(0, "a");
        x.deliverUp(0);
        due('a', x.deliverDown(0));
        due(0, x.sent(0));
        due(0, x.waiting(0));
        due(0, x.up(0));
    }

    private static void promise9_acknowledgementWithOneWaitingOperationSendsIt() {
        Couplet x = typed(0, "ab");
        x.deliverUp(0);
        due('a', x.deliverDown(0));
        due(1, x.sent(0));
        due(0, x.waiting(0));
        due(1, x.up(0));
    }

    private static void promise9_acknowledgementChangesNoText() {
        Couplet x = typed(0, "ab");
        x.moveCursor(0, 0);
        x.deliverUp(0);
        due('a', x.deliverDown(0));
        due("ab", text(x, 0));
        due(0, x.cursor(0));
        due(0, x.mark(0));
        due(2, x.kept(0));
    }

    private static void promise9_operationAfterTheAcknowledgementIsSentByItself() {
        Couplet x = typed(0, "a");
        x.deliverUp(0);
        x.deliverDown(0);
        x.type(0, 'b');
        due(1, x.sent(0));
        due(1, x.up(0));
        due(0, x.waiting(0));
    }

    private static void promise9_messageWithNothingAloneCountsButDoesNothing() {
        Couplet x = shared("abc");
        x.delete(0, 1);
        x.delete(1, 1);
        x.moveCursor(0, 2);
        x.deliverUp(1);
        int before = x.revision(0);
        due('o', x.deliverDown(0));
        due(before + 1, x.revision(0));
        due("ac", text(x, 0));
        due(2, x.cursor(0));
        due(0, x.mark(0));
        due(1, x.sent(0));
    }

    private static void promise9_waitingOperationThatBecomesNothingGoesAway() {
        for (int end = 0; end < 2; end++) {
            Couplet x = shared("abc");
            x.insert(end, 3, 'z');
            x.delete(end, 1);
            x.delete(1 - end, 1);
            x.deliverUp(1 - end);
            x.deliverDown(end);
            due("acz", text(x, end));
            due(0, x.waiting(end));
            due(1, x.sent(end));
            x.deliverUp(end);
            due('a', x.deliverDown(end));
            due(0, x.up(end));
            due(0, x.sent(end));
        }
    }

    private static void promise9_onlyWhatBecameNothingGoesAway() {
        Couplet x = shared("abcdef");
        x.insert(0, 6, 'z');
        x.insert(0, 1, 'x');
        x.delete(0, 3);
        x.insert(0, 5, 'y');
        x.delete(0, 0);
        x.delete(1, 0);
        x.delete(1, 1);
        x.deliverUp(1);
        x.deliverDown(1);
        x.deliverUp(1);
        x.deliverDown(0);
        due(3, x.waiting(0));
        x.deliverDown(0);
        due(2, x.waiting(0));
        due("xbdeyfz", text(x, 0));
        due("xbdeyfz", byHistory(x, 0));
    }

    private static void promise9_sentOperationThatBecomesNothingStays() {
        Couplet x = shared("abc");
        x.delete(0, 1);
        x.delete(1, 1);
        x.deliverUp(1);
        x.deliverDown(0);
        due(1, x.sent(0));
        // It is still not acknowledged, so a new one has to wait.
        x.type(0, 'x');
        due(1, x.waiting(0));
        due(1, x.up(0));
    }

    private static void promise9_operationsBehindNothingAreTransformedToo() {
        Couplet x = runThatBeginsWithNothing();
        x.deliverDown(0);
        x.deliverDown(0);
        due("a1defz", text(x, 0));
        due("a1defz", byHistory(x, 0));
        due(2, x.mark(0));
        x.deliverAll();
        due("a1defz", text(x, 1));
    }

    private static void promise9_allThatBecomeNothingByOneMessageGoAway() {
        Couplet x = shared("abcdef");
        x.insert(0, 6, 'z');
        x.delete(0, 1);
        x.delete(0, 1);
        x.delete(0, 2);
        x.delete(0, 1);
        due(4, x.waiting(0));
        x.insert(1, 0, '.');
        x.delete(1, 4);
        x.delete(1, 3);
        x.delete(1, 2);
        x.deliverUp(1);
        x.deliverDown(1);
        due(3, x.deliverUp(1));
        x.deliverDown(0);
        due(4, x.waiting(0));
        x.deliverDown(0);
        due(".afz", text(x, 0));
        due(1, x.waiting(0));
        due(1, x.runs(0));
        due(".afz", byHistory(x, 0));
    }

    /** The text and the mark of an end that gets an operation, with one of its own not acknowledged. */
    private static String came(int end, char ownKind, int ownPosition, char kind, int position) {
        Couplet x = shared("abcdef");
        if (end == 0) {
            // So that the mark has moved from where it was.
            x.insert(1, 6, '.');
            x.deliverAll();
        }
        act(x, end, ownKind, ownPosition);
        act(x, 1 - end, kind, position);
        x.deliverUp(1 - end);
        x.deliverDown(end);
        due(text(x, end), byHistory(x, end));
        return text(x, end).replace(".", "") + " " + x.mark(end);
    }

    private static void promise9_insertionThatComesIsTransformedByAnInsertion() {
        due("ab0c1def 5", came(0, 'i', 2, 'i', 3));
        due("abc01def 5", came(0, 'i', 3, 'i', 3));
        due("abc1d0ef 4", came(0, 'i', 4, 'i', 3));
        due("ab1c0def 5", came(1, 'i', 2, 'i', 3));
        due("abc01def 4", came(1, 'i', 3, 'i', 3));
        due("abc0d1ef 4", came(1, 'i', 4, 'i', 3));
    }

    private static void promise9_insertionThatComesIsTransformedByADeletion() {
        due("ab1def 3", came(0, 'd', 2, 'i', 3));
        due("abc1ef 4", came(0, 'd', 3, 'i', 3));
        due("abc1df 4", came(0, 'd', 4, 'i', 3));
    }

    private static void promise9_deletionThatComesIsTransformedByAnInsertion() {
        due("ab0cef 4", came(0, 'i', 2, 'd', 3));
        due("abc0ef 4", came(0, 'i', 3, 'd', 3));
        due("abc0ef 3", came(0, 'i', 4, 'd', 3));
        due("abc1ef 4", came(1, 'i', 3, 'd', 3));
        due("abc1ef 3", came(1, 'i', 4, 'd', 3));
    }

    private static void promise9_deletionThatComesIsTransformedByADeletion() {
        due("abef 2", came(0, 'd', 2, 'd', 3));
        due("abcef 6", came(0, 'd', 3, 'd', 3));
        due("abcf 3", came(0, 'd', 4, 'd', 3));
    }

    private static void promise9_operationsArePassedInTheirOrder() {
        // Behind the sent x, then behind both waiting ones, each as it was made.
        Couplet x = shared("abc");
        x.insert(0, 1, 'x');
        x.insert(0, 1, 'y');
        x.delete(0, 3);
        x.insert(1, 2, '1');
        x.deliverUp(1);
        x.deliverDown(0);
        due("ayx1c", text(x, 0));
        due(4, x.mark(0));
        due("ayx1c", byHistory(x, 0));
        x.deliverAll();
        due("ayx1c", text(x, 1));
    }

    private static void promise9_operationsOfOneMessageAreCarriedOutInTheirOrder() {
        Couplet x = shared("abc");
        x.insert(1, 0, '.');
        typeInto(x, 1, "123");
        x.deliverUp(1);
        x.deliverDown(0);
        x.deliverDown(1);
        due(3, x.deliverUp(1));
        x.insert(0, 2, '0');
        due('o', x.deliverDown(0));
        due(".123a0bc", text(x, 0));
        due(4, x.mark(0));
        due(6, x.cursor(0));
        x.deliverAll();
        due(".123a0bc", text(x, 1));
    }

    // Promise 10: deliverAll

    private static void promise10_noMessagesAre0() {
        Couplet x = new Couplet();
        due(0, x.deliverAll());
        due(state(new Couplet()), state(x));
    }

    private static void promise10_allThatIsThenSentIsDeliveredToo() {
        Couplet x = typed(0, "abc");
        due(6, x.deliverAll());
        for (int end = 0; end < 2; end++) {
            due(0, x.up(end));
            due(0, x.down(end));
            due(0, x.sent(end));
            due(0, x.waiting(end));
            due(2, x.revision(end));
        }
        due(true, x.agree());
        due(0, x.deliverAll());
    }

    private static void promise10_whatIsUnderWayDownIsDeliveredToo() {
        Couplet x = typed(0, "a");
        x.deliverUp(0);
        due(2, x.deliverAll());
        Couplet y = typed(0, "a");
        y.deliverUp(0);
        y.deliverDown(0);
        due(1, y.deliverAll());
        due("a", text(y, 1));
    }

    private static void promise10_fromTheEnd0ComesAheadOfFromTheEnd1() {
        Couplet x = new Couplet();
        x.type(1, 'b');
        x.type(0, 'a');
        due(6, x.deliverAll());
        due(0, x.historyEnd(0));
        due(1, x.historyEnd(1));
    }

    private static void promise10_fromTheEnd1ComesAheadOfToTheEnd0() {
        // Got by the end 0, the acknowledgement sends the b, which would be ahead of the c then.
        Couplet x = typed(0, "ab");
        x.deliverUp(0);
        x.type(1, 'c');
        due(8, x.deliverAll());
        due(1, x.historyEnd(1));
        due(0, x.historyEnd(2));
    }

    private static void promise10_toTheEnd0ComesAheadOfToTheEnd1() {
        // Both are to get an acknowledgement that lets them send their second operation.
        Couplet x = typed(0, "ab");
        typeInto(x, 1, "cd");
        x.deliverUp(1);
        x.deliverUp(0);
        due(10, x.deliverAll());
        due(0, x.historyEnd(2));
        due(1, x.historyEnd(3));
    }

    private static void promise10_firstOneIsLookedForAgainAfterEachDelivery() {
        // The three messages of the end 0 all go up ahead of the second one of the end 1.
        Couplet x = typed(0, "a");
        x.insert(0, 0, 'b');
        x.insert(0, 0, 'c');
        typeInto(x, 1, "xy");
        due(15, x.deliverAll());
        StringBuilder ends = new StringBuilder();
        for (int i = 0; i < 5; i++) {
            ends.append(x.historyEnd(i));
        }
        due("01001", ends.toString());
        due("cbaxy", text(x, 0));
        due(true, x.agree());
    }

    private static void promise10_200MessagesAreAllDelivered() {
        Couplet x = made(200);
        due(600, x.deliverAll());
        due(200, x.centreRevision());
        due(200, x.revision(0));
        due(200, x.revision(1));
        due(true, x.agree());
        due(0, x.length(0));
    }
}
