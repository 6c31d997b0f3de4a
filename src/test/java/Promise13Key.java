/** "The KEY that is the k-th, from 0 on, of those with a text, by size; 0 when there is none." */
final class Promise13Key extends Checks {
    private static CodedStore withKeys(int... keys) {
        CodedStore x = new CodedStore();
        for (int i = 0; i < keys.length; i++) {
            putText(x, keys[i], i + 1, i);
        }
        return x;
    }

    private static void keysAre(CodedStore x, int... keys) {
        for (int k = 0; k < keys.length; k++) {
            due("key(" + k + ")", x.key(k), keys[k]);
        }
        due("key(" + keys.length + ")", x.key(keys.length), 0);
    }

    static void theLeastIsFirst() {
        keysAre(withKeys(30, 10, 20), 10, 20, 30);
    }

    static void oneKeyAlone() {
        keysAre(withKeys(7), 7);
    }

    static void keysLessThanZeroComeBeforeZero() {
        keysAre(withKeys(1, 0, -1, -2), -2, -1, 0, 1);
    }

    static void theLeastAndTheGreatestInt() {
        keysAre(withKeys(Integer.MAX_VALUE, -1, Integer.MIN_VALUE, 1), Integer.MIN_VALUE, -1, 1, Integer.MAX_VALUE);
    }

    static void keysOfMuchTheSameLowestOctets() {
        keysAre(withKeys(256, 1, 65536, 255, -256), -256, 1, 255, 256, 65536);
    }

    static void zeroBehindTheLast() {
        CodedStore x = withKeys(5, 6);
        due("key(2)", x.key(2), 0);
        due("key(64)", x.key(64), 0);
        due("key(greatest)", x.key(Integer.MAX_VALUE), 0);
    }

    static void zeroBeforeTheFirst() {
        CodedStore x = withKeys(5, 6);
        due("key(-1)", x.key(-1), 0);
        due("key(least)", x.key(Integer.MIN_VALUE), 0);
    }

    static void zeroWhenNoKeyHasAText() {
        due("key(0)", new CodedStore().key(0), 0);
    }

    static void keysWithAGraveAreLeftOut() {
        CodedStore x = withKeys(5, 6, 7);
        x.delete(6);
        keysAre(x, 5, 7);
        x.delete(5);
        x.delete(7);
        keysAre(x);
    }

    static void keysWhoseTextIsNotWholeAreLeftOut() {
        CodedStore x = withKeys(5);
        x.power(1);
        due("commit(3)", commitOf(x, 3, unlike(20)), OFF);
        x.recover();
        keysAre(x, 5);
    }

    static void aKeyOfManyBlocksStandsOnce() {
        CodedStore x = withKeys(5, 6);
        putText(x, 4, 3, unlike(100));
        putText(x, 5, 4, unlike(100));
        keysAre(x, 4, 5, 6);
    }

    static void emptyTextsAreTexts() {
        CodedStore x = withKeys(5);
        putText(x, 3, 2);
        keysAre(x, 3, 5);
    }

    static void the64thOf64Keys() {
        CodedStore x = new CodedStore();
        for (int key = 63; key >= 0; key--) {
            x.commit(100 + key);
        }
        due("key(0)", x.key(0), 100);
        due("key(63)", x.key(63), 163);
        due("key(64)", x.key(64), 0);
    }

    static void whenOffItAnswersAsEver() {
        CodedStore x = withKeys(6, 5);
        switchOff(x);
        keysAre(x, 5, 6);
    }
}
