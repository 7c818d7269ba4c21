import java.math.BigInteger;
import java.util.ArrayList;
import java.util.List;

/** The boundary cases of the promises 11 to 17 and 28 to 37: texts, the history, and what follows from them. */
final class AnswerEdges extends Checks {

    // Promise 11: length

    private static void promise11_endsAre0And1() {
        Couplet x = typed(1, "ab");
        dueTwoEnds(x, end -> x.length(end));
        due(0, x.length(0));
        due(2, x.length(1));
    }

    private static void promise11_emptyTextHas0() {
        due(0, new Couplet().length(0));
        Couplet x = typed(0, "a");
        x.erase(0);
        due(0, x.length(0));
    }

    private static void promise11_longestTextsHave120() {
        Couplet x = longer(60);
        due(120, x.length(0));
        due(120, x.length(1));
        due(120, x.centreLength());
        due(120, x.lengthByHistory(0));
    }

    // Promise 12: charAt

    private static void promise12_endsAre0And1() {
        Couplet x = typed(0, "a");
        x.type(1, 'b');
        dueTwoEnds(x, end -> x.charAt(end, 0));
        due('a', x.charAt(0, 0));
        due('b', x.charAt(1, 0));
    }

    private static void promise12_firstAndLastPosition() {
        Couplet x = typed(0, "abc");
        due('a', x.charAt(0, 0));
        due('c', x.charAt(0, 2));
    }

    private static void promise12_positionsBesideThemAreRefused() {
        Couplet x = typed(0, "abc");
        dueRefused(ARGUMENT, x, () -> x.charAt(0, -1), () -> x.charAt(0, 3),
                () -> x.charAt(0, Integer.MIN_VALUE), () -> x.charAt(0, Integer.MAX_VALUE));
    }

    private static void promise12_emptyTextHasNoPosition() {
        Couplet x = typed(0, "abc");
        dueRefused(ARGUMENT, x, () -> x.charAt(1, 0));
    }

    private static void promise12_noSuchEndComesAheadOfNoSuchPosition() {
        Couplet x = typed(0, "abc");
        dueRefused(INDEX, x, () -> x.charAt(2, 3), () -> x.charAt(-1, -1));
    }

    private static void promise12_lastPositionOfTheLongestText() {
        Couplet x = longer(60);
        due('x', x.charAt(1, 59));
        due('y', x.charAt(1, 60));
        due('y', x.charAt(1, 119));
        dueRefused(ARGUMENT, x, () -> x.charAt(1, 120));
    }

    // Promise 13: ownerAt

    private static void promise13_endsAre0And1() {
        Couplet x = typed(0, "a");
        x.type(1, 'b');
        dueTwoEnds(x, end -> x.ownerAt(end, 0));
        due(0, x.ownerAt(0, 0));
        due(1, x.ownerAt(1, 0));
    }

    private static void promise13_firstAndLastPosition() {
        Couplet x = longer(1);
        due(0, x.ownerAt(0, 0));
        due(1, x.ownerAt(0, 60));
        due(0, x.ownerAt(1, 59));
        due(1, x.ownerAt(1, 60));
    }

    private static void promise13_positionsBesideThemAreRefused() {
        Couplet x = typed(0, "abc");
        dueRefused(ARGUMENT, x, () -> x.ownerAt(0, -1), () -> x.ownerAt(0, 3), () -> x.ownerAt(1, 0),
                () -> x.ownerAt(0, Integer.MIN_VALUE), () -> x.ownerAt(0, Integer.MAX_VALUE));
    }

    private static void promise13_noSuchEndComesAheadOfNoSuchPosition() {
        Couplet x = typed(0, "abc");
        dueRefused(INDEX, x, () -> x.ownerAt(2, 3), () -> x.ownerAt(-1, -1));
    }

    private static void promise13_charactersThatLookTheSameHaveTheirOwners() {
        Couplet x = typed(0, "a");
        x.type(1, 'a');
        x.deliverAll();
        due("aa", text(x, 1));
        due("01", owners(x, 0));
        due("01", owners(x, 1));
    }

    // Promise 14: lengthByHistory

    private static void promise14_endsAre0And1() {
        Couplet x = typed(1, "ab");
        dueTwoEnds(x, end -> x.lengthByHistory(end));
        due(0, x.lengthByHistory(0));
        due(2, x.lengthByHistory(1));
    }

    private static void promise14_is0WithoutOperations() {
        due(0, new Couplet().lengthByHistory(0));
        due(0, new Couplet().lengthByHistory(1));
    }

    private static void promise14_sentAndWaitingOperationsAreCarriedOut() {
        due(1, typed(0, "a").lengthByHistory(0));
        due(2, typed(0, "ab").lengthByHistory(0));
    }

    private static void promise14_messagesBehindTheRevisionAreNot() {
        Couplet x = typed(0, "a");
        x.deliverUp(0);
        due(0, x.lengthByHistory(1));
        x.deliverDown(1);
        due(1, x.lengthByHistory(1));
    }

    private static void promise14_messageThatIsNotAcknowledgedIsCarriedOutOnce() {
        Couplet x = typed(0, "a");
        x.deliverUp(0);
        due(1, x.lengthByHistory(0));
        x.deliverDown(0);
        due(1, x.lengthByHistory(0));
    }

    private static void promise14_operationsThatAreNothingDoNothing() {
        Couplet x = shared("ab");
        x.delete(0, 0);
        x.delete(1, 0);
        x.deliverUp(0);
        x.deliverDown(1);
        due(1, x.lengthByHistory(1));
        x.deliverAll();
        due(1, x.lengthByHistory(0));
        due(1, x.lengthByHistory(1));
    }

    // Promise 15: charByHistory

    private static void promise15_endsAre0And1() {
        Couplet x = typed(0, "a");
        x.type(1, 'b');
        dueTwoEnds(x, end -> x.charByHistory(end, 0));
        due('a', x.charByHistory(0, 0));
        due('b', x.charByHistory(1, 0));
    }

    private static void promise15_firstAndLastPosition() {
        Couplet x = shared("abc");
        due('a', x.charByHistory(1, 0));
        due('c', x.charByHistory(1, 2));
        x.type(1, 'd');
        due('d', x.charByHistory(1, 0));
        due('c', x.charByHistory(1, 3));
    }

    private static void promise15_positionsBesideThemAreRefused() {
        Couplet x = shared("abc");
        dueRefused(ARGUMENT, x, () -> x.charByHistory(0, -1), () -> x.charByHistory(0, 3),
                () -> x.charByHistory(1, Integer.MIN_VALUE), () -> x.charByHistory(1, Integer.MAX_VALUE));
    }

    private static void promise15_emptyTextHasNoPosition() {
        Couplet x = typed(0, "abc");
        x.deliverUp(0);
        dueRefused(ARGUMENT, x, () -> x.charByHistory(1, 0));
    }

    private static void promise15_noSuchEndComesAheadOfNoSuchPosition() {
        Couplet x = typed(0, "abc");
        dueRefused(INDEX, x, () -> x.charByHistory(2, 3), () -> x.charByHistory(-1, -1));
    }

    private static void promise15_lastPositionOfTheLongestText() {
        Couplet x = longer(60);
        due('y', x.charByHistory(0, 119));
        dueRefused(ARGUMENT, x, () -> x.charByHistory(0, 120));
    }

    // Promises 16 and 17: the text of the centre

    private static void promise16_is0BeforeAMessageCame() {
        due(0, new Couplet().centreLength());
        due(0, typed(0, "a").centreLength());
    }

    private static void promise16_isMoreThan60IfTheEndsMadeItSo() {
        due(61, longer(1).centreLength());
        due(120, longer(60).centreLength());
    }

    private static void promise16_lastDeletionMakesIt0() {
        Couplet x = shared("a");
        due(1, x.centreLength());
        x.delete(1, 0);
        due(1, x.centreLength());
        x.deliverUp(1);
        due(0, x.centreLength());
    }

    private static void promise17_firstAndLastPosition() {
        Couplet x = shared("abc");
        due('a', x.centreChar(0));
        due('c', x.centreChar(2));
        Couplet y = longer(60);
        due('x', y.centreChar(0));
        due('y', y.centreChar(119));
        dueRefused(ARGUMENT, y, () -> y.centreChar(120));
    }

    private static void promise17_positionsBesideThemAreRefused() {
        Couplet x = shared("abc");
        x.type(0, 'd');
        dueRefused(ARGUMENT, x, () -> x.centreChar(-1), () -> x.centreChar(3),
                () -> x.centreChar(Integer.MIN_VALUE), () -> x.centreChar(Integer.MAX_VALUE));
    }

    private static void promise17_emptyTextHasNoPosition() {
        Couplet x = typed(0, "abc");
        dueRefused(ARGUMENT, x, () -> x.centreChar(0));
    }

    // Promise 28: historyEnd

    private static void promise28_firstAndLastMessage() {
        Couplet x = shared("a");
        x.type(1, 'b');
        x.deliverUp(1);
        due(0, x.historyEnd(0));
        due(1, x.historyEnd(1));
    }

    private static void promise28_messagesBesideThemAreRefused() {
        Couplet x = shared("ab");
        x.type(1, 'c');
        dueRefused(ELEMENT, x, () -> x.historyEnd(-1), () -> x.historyEnd(2),
                () -> x.historyEnd(Integer.MIN_VALUE), () -> x.historyEnd(Integer.MAX_VALUE));
    }

    private static void promise28_emptyHistoryHasNoMessage() {
        Couplet x = typed(0, "a");
        dueRefused(ELEMENT, x, () -> x.historyEnd(0));
    }

    private static void promise28_the200thMessage() {
        Couplet x = made(200);
        x.deliverAll();
        due(1, x.historyEnd(199));
        dueRefused(ELEMENT, x, () -> x.historyEnd(200));
    }

    // Promise 29: historySize

    private static void promise29_firstAndLastMessage() {
        Couplet x = shared("abcd");
        due(1, x.historySize(0));
        due(3, x.historySize(1));
    }

    private static void promise29_messagesBesideThemAreRefused() {
        Couplet x = shared("ab");
        dueRefused(ELEMENT, x, () -> x.historySize(-1), () -> x.historySize(2),
                () -> x.historySize(Integer.MIN_VALUE), () -> x.historySize(Integer.MAX_VALUE));
    }

    private static void promise29_emptyHistoryHasNoMessage() {
        Couplet x = typed(0, "a");
        dueRefused(ELEMENT, x, () -> x.historySize(0));
    }

    private static void promise29_operationsThatAreNothingAreCounted() {
        Couplet x = shared("a");
        x.delete(0, 0);
        x.delete(1, 0);
        x.deliverAll();
        due(1, x.historySize(2));
    }

    // Promise 30: historyKind

    /** The messages are one that inserts, one that inserts twice, one that deletes, and one that is nothing. */
    private static Couplet allKinds() {
        Couplet x = shared("abc");
        x.delete(0, 2);
        x.delete(1, 2);
        x.deliverAll();
        return x;
    }

    private static void promise30_eachKind() {
        Couplet x = allKinds();
        due('i', x.historyKind(0, 0));
        due('i', x.historyKind(1, 1));
        due('d', x.historyKind(2, 0));
        due('n', x.historyKind(3, 0));
    }

    private static void promise30_messagesBesideThemAreRefused() {
        Couplet x = allKinds();
        dueRefused(ELEMENT, x, () -> x.historyKind(-1, 0), () -> x.historyKind(4, 0),
                () -> x.historyKind(Integer.MIN_VALUE, 0), () -> x.historyKind(Integer.MAX_VALUE, 0));
    }

    private static void promise30_operationsBesideThemAreRefused() {
        Couplet x = allKinds();
        dueRefused(INDEX, x, () -> x.historyKind(1, -1), () -> x.historyKind(1, 2), () -> x.historyKind(0, 1),
                () -> x.historyKind(3, 1), () -> x.historyKind(1, Integer.MIN_VALUE),
                () -> x.historyKind(1, Integer.MAX_VALUE));
    }

    private static void promise30_noSuchMessageComesAheadOfNoSuchOperation() {
        Couplet x = allKinds();
        dueRefused(ELEMENT, x, () -> x.historyKind(4, 1), () -> x.historyKind(-1, -1));
        Couplet none = new Couplet();
        dueRefused(ELEMENT, none, () -> none.historyKind(0, 0), () -> none.historyKind(0, -1));
    }

    private static void promise30_isAsItWasCarriedOut() {
        // The ends go on transforming their copies; the history stays.
        Couplet x = shared("ab");
        x.delete(0, 0);
        x.deliverUp(0);
        x.delete(1, 0);
        x.deliverDown(1);
        due('d', x.historyKind(2, 0));
        due(0, x.historyPosition(2, 0));
        x.deliverAll();
        due('d', x.historyKind(2, 0));
        due('n', x.historyKind(3, 0));
    }

    // Promise 31: historyPosition

    private static void promise31_eachKind() {
        Couplet x = allKinds();
        due(0, x.historyPosition(0, 0));
        due(1, x.historyPosition(1, 0));
        due(2, x.historyPosition(1, 1));
        due(2, x.historyPosition(2, 0));
    }

    private static void promise31_nothingHasMinus1() {
        Couplet x = allKinds();
        due(-1, x.historyPosition(3, 0));
    }

    private static void promise31_messagesBesideThemAreRefused() {
        Couplet x = allKinds();
        dueRefused(ELEMENT, x, () -> x.historyPosition(-1, 0), () -> x.historyPosition(4, 0),
                () -> x.historyPosition(Integer.MIN_VALUE, 0), () -> x.historyPosition(Integer.MAX_VALUE, 0));
    }

    private static void promise31_operationsBesideThemAreRefused() {
        Couplet x = allKinds();
        dueRefused(INDEX, x, () -> x.historyPosition(1, -1), () -> x.historyPosition(1, 2),
                () -> x.historyPosition(0, 1), () -> x.historyPosition(3, 1),
                () -> x.historyPosition(1, Integer.MIN_VALUE), () -> x.historyPosition(1, Integer.MAX_VALUE));
    }

    private static void promise31_noSuchMessageComesAheadOfNoSuchOperation() {
        Couplet x = allKinds();
        dueRefused(ELEMENT, x, () -> x.historyPosition(4, 1), () -> x.historyPosition(-1, -1));
        Couplet none = new Couplet();
        dueRefused(ELEMENT, none, () -> none.historyPosition(0, 0), () -> none.historyPosition(0, -1));
    }

    private static void promise31_lastOperationOfALongMessage() {
        Couplet x = longer(60);
        due(59, x.historySize(3));
        due(119, x.historyPosition(3, 58));
        dueRefused(INDEX, x, () -> x.historyPosition(3, 59));
    }

    private static void promise31_isAsItWasCarriedOutAtTheCentre() {
        Couplet x = shared("ab");
        x.insert(0, 0, 'x');
        x.insert(1, 2, 'y');
        x.deliverUp(0);
        x.deliverUp(1);
        due(0, x.historyPosition(2, 0));
        due(3, x.historyPosition(3, 0));
        x.deliverAll();
        due(0, x.historyPosition(2, 0));
        due(3, x.historyPosition(3, 0));
    }

    // Promise 32: agree

    private static void promise32_emptyTextsAgree() {
        due(true, new Couplet().agree());
        Couplet x = typed(0, "a");
        x.erase(0);
        due(true, x.agree());
    }

    private static void promise32_oneEndAloneDiffers() {
        Couplet x = shared("ab");
        due(true, x.agree());
        x.type(0, 'c');
        due(false, x.agree());
        Couplet y = shared("ab");
        y.type(1, 'c');
        due(false, y.agree());
    }

    private static void promise32_centreAloneDiffers() {
        Couplet x = typed(0, "a");
        x.type(1, 'a');
        due(0, x.distance());
        due(false, x.agree());
    }

    private static void promise32_firstOrLastCharacterAloneDiffers() {
        Couplet x = shared("abc");
        x.delete(0, 0);
        x.insert(0, 0, 'x');
        due(false, x.agree());
        Couplet y = shared("abc");
        y.delete(0, 2);
        y.insert(0, 2, 'x');
        due(false, y.agree());
        Couplet z = shared("abc");
        z.delete(0, 2);
        z.insert(0, 2, 'c');
        due(true, z.agree());
    }

    private static void promise32_longestTextsAgree() {
        Couplet x = longer(60);
        due(true, x.agree());
        x.delete(0, 119);
        due(false, x.agree());
    }

    private static void promise32_allAgreeInTheEndHoweverMuchWasUnderWay() {
        Couplet x = shared("abc");
        for (int i = 0; i < 49; i++) {
            x.insert(0, i % 3, (char) ('0' + i % 10));
            x.insert(1, i % 4, (char) ('A' + i % 26));
            if (i % 3 == 0) {
                x.delete(0, (i * 7) % x.length(0));
                x.delete(1, (i * 5) % x.length(1));
            }
        }
        due(false, x.agree());
        x.deliverAll();
        due(true, x.agree());
        due(0, x.distance());
        due(x.textNumber(0), x.textNumber(1));
    }

    // Promises 33 and 34: the distances

    private static void dueDistance(int want, Couplet x) {
        // Asked twice, as what one call leaves behind must not matter to the next one.
        for (int i = 0; i < 2; i++) {
            due(want, x.distance());
            due(want, x.distanceByWays());
        }
    }

    private static void dueDistance(int want, String here, String there) {
        Couplet x = typed(0, here);
        typeInto(x, 1, there);
        dueDistance(want, x);
    }

    private static void promise33_emptyTextsHave0() {
        due(0, new Couplet().distance());
        due(0, shared("abc").distance());
    }

    private static void promise33_emptyTextAndAnotherHaveItsLength() {
        due(3, typed(0, "abc").distance());
        due(3, typed(1, "abc").distance());
        due(60, typed(0, "x".repeat(60)).distance());
        due(60, typed(1, "x".repeat(60)).distance());
    }

    private static void promise33_changedCharacterIsADeletionAndAnInsertion() {
        Couplet x = typed(0, "a");
        x.type(1, 'b');
        due(2, x.distance());
    }

    private static void promise33_longestTexts() {
        Couplet x = longer(60);
        due(0, x.distance());
        x.delete(0, 0);
        due(1, x.distance());
        Couplet y = typed(0, "x".repeat(60));
        typeInto(y, 1, "y".repeat(60));
        due(120, y.distance());
    }

    private static void promise34_emptyTextsHave0() {
        due(0, new Couplet().distanceByWays());
        due(0, shared("abc").distanceByWays());
    }

    private static void promise34_emptyTextAndAnotherHaveItsLength() {
        due(3, typed(0, "abc").distanceByWays());
        due(3, typed(1, "abc").distanceByWays());
        due(60, typed(0, "x".repeat(60)).distanceByWays());
        due(60, typed(1, "x".repeat(60)).distanceByWays());
    }

    private static void promise34_changedCharacterIsADeletionAndAnInsertion() {
        Couplet x = typed(0, "a");
        x.type(1, 'b');
        due(2, x.distanceByWays());
    }

    private static void promise34_longestTexts() {
        Couplet x = longer(60);
        due(0, x.distanceByWays());
        x.delete(0, 0);
        due(1, x.distanceByWays());
        Couplet y = typed(0, "x".repeat(60));
        typeInto(y, 1, "y".repeat(60));
        due(120, y.distanceByWays());
    }

    private static void promise34_answersTheSameAsDistance() {
        dueDistance(2, "ab", "ba");
        dueDistance(4, "abc", "cba");
        dueDistance(5, "abcabba", "cbabac");
        dueDistance(5, "kitten", "sitting");
        dueDistance(6, "aaaa", "aaaaaaaaaa");
        dueDistance(6, "aaaaaaaaaa", "aaaa");
        dueDistance(2, "x".repeat(59) + "y", "y" + "x".repeat(59));
    }

    private static void promise34_allTextsOfUpTo5CharactersOfTwo() {
        List<String> texts = new ArrayList<>(List.of(""));
        for (int i = 0; texts.get(i).length() < 5; i++) {
            texts.add(texts.get(i) + "a");
            texts.add(texts.get(i) + "b");
        }
        due(63, texts.size());
        for (String here : texts) {
            for (String there : texts) {
                dueDistance(fewest(here, there), here, there);
            }
        }
    }

    /** The fewest insertions and deletions, found by trying both wherever the first characters differ. */
    private static int fewest(String here, String there) {
        if (here.isEmpty() || there.isEmpty()) {
            return here.length() + there.length();
        }
        if (here.charAt(0) == there.charAt(0)) {
            return fewest(here.substring(1), there.substring(1));
        }
        return 1 + Math.min(fewest(here.substring(1), there), fewest(here, there.substring(1)));
    }

    private static void promise34_oneTextOf120AndOneOf60() {
        Couplet x = typed(0, "x".repeat(60));
        typeInto(x, 1, "y".repeat(60));
        x.deliverUp(1);
        x.deliverDown(1);
        x.deliverUp(1);
        x.deliverDown(0);
        x.deliverDown(0);
        due(120, x.length(0));
        dueDistance(60, x);
        Couplet z = typed(1, "x".repeat(60));
        typeInto(z, 0, "y".repeat(60));
        z.deliverUp(0);
        z.deliverDown(0);
        z.deliverUp(0);
        z.deliverDown(1);
        z.deliverDown(1);
        due(120, z.length(1));
        dueDistance(60, z);
    }

    private static void promise34_farthestTexts() {
        // The end 0 has all the first 60 characters of the end 1, which goes on to write others.
        Couplet x = typed(0, "x".repeat(60));
        typeInto(x, 1, "y".repeat(60));
        x.deliverUp(1);
        x.deliverDown(1);
        x.deliverUp(1);
        x.deliverDown(0);
        x.deliverDown(0);
        for (int i = 0; i < 40; i++) {
            x.erase(1);
        }
        typeInto(x, 1, "z".repeat(40));
        due(120, x.length(0));
        due(60, x.length(1));
        dueDistance(140, x);
    }

    // Promise 35: ownShare

    private static void promise35_endsAre0And1() {
        Couplet x = shared("ab");
        dueTwoEnds(x, end -> x.ownShare(end));
        due(1f, x.ownShare(0));
        due(0f, x.ownShare(1));
    }

    private static void promise35_emptyTextIsRefused() {
        Couplet x = typed(0, "a");
        dueRefused(ARITHMETIC, x, () -> x.ownShare(1));
        x.erase(0);
        dueRefused(ARITHMETIC, x, () -> x.ownShare(0));
    }

    private static void promise35_noSuchEndComesAheadOfAnEmptyText() {
        Couplet x = new Couplet();
        dueRefused(INDEX, x, () -> x.ownShare(2), () -> x.ownShare(-1));
    }

    private static void promise35_numbersAreConvertedToFloat() {
        Couplet x = typed(0, "a");
        typeInto(x, 1, "bc");
        x.deliverAll();
        due(1f / 3f, x.ownShare(0));
        due(2f / 3f, x.ownShare(1));
        due(60f / 61f, longer(1).ownShare(0));
        due(1f / 61f, longer(1).ownShare(1));
    }

    // Promise 36: meanRun

    private static void promise36_emptyHistoryIsRefused() {
        Couplet x = typed(0, "ab");
        dueRefused(ARITHMETIC, x, () -> x.meanRun());
        x.deliverUp(0);
        due(1.0, x.meanRun());
    }

    private static void promise36_numbersAreConvertedToDouble() {
        Couplet x = shared("abc");
        x.insert(0, 0, 'x');
        x.deliverAll();
        due(4.0 / 3.0, x.meanRun());
    }

    private static void promise36_operationsThatAreNothingAreCounted() {
        Couplet x = shared("abc");
        x.delete(0, 0);
        x.delete(1, 0);
        x.deliverAll();
        due(5.0 / 4.0, x.meanRun());
    }

    private static void promise36_200Operations() {
        Couplet x = made(200);
        x.deliverAll();
        due(1.0, x.meanRun());
        Couplet y = typed(0, "x".repeat(60));
        y.deliverAll();
        due(30.0, y.meanRun());
    }

    // Promise 37: textNumber

    private static void promise37_endsAre0And1() {
        Couplet x = typed(1, " ");
        dueTwoEnds(x, end -> x.textNumber(end));
        due(7L, x.textNumber(0));
        due(249L, x.textNumber(1));
    }

    private static void promise37_emptyTextHas7() {
        Couplet x = typed(0, "a");
        x.erase(0);
        due(7L, x.textNumber(0));
    }

    private static void promise37_numberIsMoreThanAnIntHolds() {
        due(9083107138L, typed(0, "abcde~").textNumber(0));
    }

    private static void promise37_numbersGoAroundAsThoseOfTypeLong() {
        Couplet x = new Couplet();
        BigInteger number = BigInteger.valueOf(7);
        boolean below0 = false;
        for (int i = 0; i < 60; i++) {
            char c = (char) (' ' + (i * 37 + 94) % 95);
            x.type(0, c);
            number = number.multiply(BigInteger.valueOf(31)).add(BigInteger.valueOf(c));
            due(number.longValue(), x.textNumber(0));
            below0 = below0 || number.longValue() < 0;
        }
        due(true, below0);
    }
}
