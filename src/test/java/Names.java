/** Names for the numbers that the document gives to states and questions. */
interface Names {
    int NONE = LeaseQueue.NONE;

    // about(item, 5) and count(queue, ..)
    int OPEN = 0;
    int LEASED = 1;
    int DONE = 2;
    int ASIDE = 3;
    int READY = 4;

    // about(item, ..)
    int QUEUE = 0;
    int PRIORITY = 1;
    int DUE = 2;
    int BODY = 3;
    int KEY = 4;
    int STATE = 5;
    int CONSUMER = 6;
    int UNTIL = 7;
    int TRIES = 8;
    int WAITS = 9;

    // total(..)
    int TIME = 0;
    int ITEMS = 1;
    int RECORDS = 2;
    int COMPACTINGS = 3;
    int CRASHES = 4;
    int RATE_OF_QUEUE_0 = 5;
}
