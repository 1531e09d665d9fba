/** The answers that the document tells by name. */
interface Answers {
    int NONE = -1000000, BAD = -1000001, STATE = -1000002, FULL = -1000003;
    int NULL = -1000011, PLACE = -1000012, KIND = -1000013, SIZE = -1000014, STORE = -1000015;
    int FAULT = -1000100;
    int MIN = Integer.MIN_VALUE, MAX = Integer.MAX_VALUE;
}
